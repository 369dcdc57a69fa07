def gX7_judge_64 (n : Nat) (a1 : Int32) (I : zI) (s9 : Int64 × Int32) : Option ((Int64 × Int32) ⊕ ((Int32 × zI) ⊕ (Unit))) :=
  zg a1 4 (
  if (I (42 + 2 * zn a1) 1) ≤ s9.2 then
    some (.inr (.inr ()))
  else
  zg a1 4 (
  zg s9.2 40 (
  zl (I (42 + 2 * zn a1 + 1) (zn s9.2)) fun v20 =>
  zb (fX7_isPlace v20) fun o22 =>
  if o22 = 0 then
    some (.inr (.inl (1 + s9.2, I)))
  else
  if (lg_cmp ((zushrL s9.1 v20) &&& 1) 0) = 0 then
    some (.inr (.inl (1 + s9.2, I)))
  else
  zb (fX6_nextPlaces n 1 (zshlL 1 v20) I) fun o24 =>
  zl (s9.2 + 1) fun v25 =>
  some (.inl (o24, v25)))))
def fX7_judge (n : Nat) (a1 : Int32) (a2 : Int32) (I : zI) : Option (Int32 × zI) :=
  zb (fX7_isSheet a1) fun o2 =>
  if o2 = 0 then
    zb (fX7_finding (-1000001) I) fun o34 =>
    some (o34.1, o34.2)
  else
  zg a1 4 (
  zb (fX2_isMissing (42 + 2 * zn a1) I) fun o5 =>
  if o5 = 0 then
    zb (fX7_isOne a2 I) fun o7 =>
    if o7 = 0 then
      zb (fX7_finding (-1000001) I) fun o28 =>
      some (o28.1, o28.2)
    else
    zg a2 4 (
    zl (zshlL 1 (I 6 (zn a2))) fun v8 =>
    zbs (zit (gX7_judge_64 n a1 I) n (v8, 0)) fun x10 : Unit =>
    some (0, I))
  else
  zb (fX7_finding (-1000006) I) fun o31 =>
  some (o31.1, o31.2))
set_option maxHeartbeats 4000000 in
set_option maxRecDepth 100000 in
theorem mX7_judge {l : Launch} {D : va_G} {T : zT} {ad sK sV : Nat → Nat} (hi : zInj ad) (n : Nat) (a1 : Int32) (a2 : Int32)  (I : zI) (L : zL) : ∀ o, fX7_judge n a1 a2 I = some o → zMet l yX7_judge cX7_judge 7 (some .int) 2 44 D T ad sK sV [.ref (ad 0), .int a1, .int a2] I L (em_iI L o) := by
  intro o ho
  refine zMet.of hi (by decide +kernel) (Nat.le_of_ble_eq_true rfl) (fun p e s m args below meth c hB => ?_)
  refine zr_top (emb := em_iI L) (t := fX7_judge n a1 a2 I) ?_ ho
  unfold fX7_judge
  refine zr_iload_n hB 1 rfl rfl dX7_judge_0 ?_
  refine zr_callS (st := []) (As := [.int a1]) (embc := em_i0 I L) hB (mX7_isSheet (sK := sK) (sV := sV) hi a1 I L) lm_X7_278 q2_X7_isSheet q4_X7 q5_X7_isSheet qd_X7_isSheet (by decide) rfl rfl (Nat.le_of_ble_eq_true rfl) ⟨Nat.zero_le _, Nat.zero_le _⟩ dX7_judge_1 (zr_ki0 (fun o2 => ?_))
  refine zr_ifne (tgt := 14) hB (by decide) dX7_judge_4 ?_ ?_
  · refine zr_aload_n hB 0 rfl rfl dX7_judge_14 ?_
    refine zr_get_X7 (w := 0) (k := 6) (v := .ref (ad 40)) hB rfl (by decide) rfl lf_X7_38 rfl dX7_judge_15 ?_
    refine zr_iload_n hB 1 rfl rfl dX7_judge_18 ?_
    refine zr_aaloadH hB dX7_judge_19 (fun h3 => ?_)
    refine zr_callV (st := []) (C := RX2) (As := []) (embc := em_i0 I L) hB (mX2_isMissing (sK := sK) (sV := sV) hi (42 + 2 * zn a1) (zS_of (vp_lt h3)) I L) (zW_X2 (zS_of (vp_lt h3))) rfl rfl lm_X7_285 q2_X2_isMissing q3_X2_isMissing q4_X2 q5_X2_isMissing qd_X2_isMissing (by decide) rfl rfl (Nat.le_of_ble_eq_true rfl) ⟨Nat.zero_le _, Nat.zero_le _⟩ dX7_judge_20 (zr_ki0 (fun o5 => ?_))
    refine zr_ifeq (tgt := 34) hB (by decide) dX7_judge_23 ?_ ?_
    · refine zr_aload_n hB 0 rfl rfl dX7_judge_34 ?_
      refine zr_iload_n hB 2 rfl rfl dX7_judge_35 ?_
      refine zr_callV (st := []) (C := RX7) (As := [.int a2]) (embc := em_i0 I L) hB (mX7_isOne (sK := sK) (sV := sV) hi a2 I L) (zW_X7 rfl) rfl rfl lm_X7_109 q2_X7_isOne q3_X7_isOne q4_X7 q5_X7_isOne qd_X7_isOne (by decide) rfl rfl (Nat.le_of_ble_eq_true rfl) ⟨Nat.zero_le _, Nat.zero_le _⟩ dX7_judge_36 (zr_ki0 (fun o7 => ?_))
      refine zr_ifne (tgt := 49) hB (by decide) dX7_judge_39 ?_ ?_
      · refine zr_lconst (v := 1) hB (by decide) dX7_judge_49 ?_
        refine zr_aload_n hB 0 rfl rfl dX7_judge_50 ?_
        refine zr_get_X7 (w := 0) (k := 0) (v := .ref (ad 1)) hB rfl (by decide) rfl lf_X7_12 rfl dX7_judge_51 ?_
        refine zr_get_X6 (w := 1) (k := 9) (v := .ref (ad 6)) hB (Or.inl rfl) (by decide) rfl lf_X7_129 rfl dX7_judge_54 ?_
        refine zr_iload_n hB 2 rfl rfl dX7_judge_57 ?_
        refine zr_iaload hB zA_6 dX7_judge_58 ?_
        refine zr_lshl hB dX7_judge_59 ?_
        refine zr_letL (fun v8 => ?_)
        refine zr_lstore_n (lv' := [(3, .long v8), (0, .ref (ad 0)), (1, .int a1), (2, .int a2)]) hB rfl (by decide) rfl dX7_judge_60 ?_
        refine zr_iconst (v := 0) hB (by decide) dX7_judge_61 ?_
        refine zr_istore (lv' := [(5, .int 0), (3, .long v8), (0, .ref (ad 0)), (1, .int a1), (2, .int a2)]) hB (by decide) rfl dX7_judge_62 ?_
        refine zr_joins (pcJ := 134) (fun x10 : Unit => []) (fun _ => []) (fun x10 => I) (fun x10 => L) (fun x10 => ?_) (fun K16 hi14 hx15 => ?_)
        · refine zr_iconst (v := 0) hB (by decide) dX7_judge_134 ?_
          exact zr_iret hB rfl rfl dX7_judge_135
        · refine zr_sub (lv' := (fun s9 : Int64 × Int32 => [(3, .long s9.1), (5, .int s9.2), (0, .ref (ad 0)), (1, .int a1)]) (v8, 0)) [1, 0, 2, 3] rfl (zr_loops (fun s9 : Int64 × Int32 => [(3, .long s9.1), (5, .int s9.2), (0, .ref (ad 0)), (1, .int a1)]) (fun s9 => I) (fun s9 => L) (fun x10 : Unit => []) (fun x10 => I) (fun x10 => L) hi14 hx15 (fun s9 K17 hc11 hi13 hx12 => ?_) n (v8, 0))
          unfold gX7_judge_64
          refine zr_iload hB 1 rfl dX7_judge_64 ?_
          refine zr_aload_n hB 2 rfl rfl dX7_judge_66 ?_
          refine zr_get_X7 (w := 0) (k := 6) (v := .ref (ad 40)) hB rfl (by decide) rfl lf_X7_38 rfl dX7_judge_67 ?_
          refine zr_iload_n hB 3 rfl rfl dX7_judge_70 ?_
          refine zr_aaloadH hB dX7_judge_71 (fun h18 => ?_)
          refine zr_get_X2 (w := 42 + 2 * zn a1) (k := 1) (v := .int (I (42 + 2 * zn a1) 1)) hB (zS_of (vp_lt h18)) (by decide) rfl lf_X7_284 rfl dX7_judge_72 ?_
          refine zr_icmp_ge (tgt := 134) hB (by decide) dX7_judge_75 ?_ ?_
          · exact zr_sub [] rfl (hx12 ())
          · refine zr_aload_n hB 2 rfl rfl dX7_judge_78 ?_
            refine zr_get_X7 (w := 0) (k := 6) (v := .ref (ad 40)) hB rfl (by decide) rfl lf_X7_38 rfl dX7_judge_79 ?_
            refine zr_iload_n hB 3 rfl rfl dX7_judge_82 ?_
            refine zr_aaloadH hB dX7_judge_83 (fun h19 => ?_)
            refine zr_get_X2 (w := 42 + 2 * zn a1) (k := 2) (v := .ref (ad (42 + 2 * zn a1 + 1))) hB (zS_of (vp_lt h19)) (by decide) rfl lf_X7_298 rfl dX7_judge_84 ?_
            refine zr_iload hB 1 rfl dX7_judge_87 ?_
            refine zr_iaload hB (zA_X2_1 (zS_of (vp_lt h19))) dX7_judge_89 ?_
            refine zr_letI (fun v20 => ?_)
            refine zr_istore (lv' := [(6, .int v20), (3, .long s9.1), (5, .int s9.2), (0, .ref (ad 0)), (1, .int a1)]) hB (by decide) rfl dX7_judge_90 ?_
            refine zr_iload hB 0 rfl dX7_judge_92 ?_
            refine zr_callS (st := []) (As := [.int v20]) (embc := em_i0 I L) hB (mX7_isPlace (sK := sK) (sV := sV) hi v20 I L) lm_X7_100 q2_X7_isPlace q4_X7 q5_X7_isPlace qd_X7_isPlace (by decide) rfl rfl (Nat.le_of_ble_eq_true rfl) ⟨Nat.zero_le _, Nat.zero_le _⟩ dX7_judge_94 (zr_ki0 (fun o22 => ?_))
            refine zr_ifeq (tgt := 111) hB (by decide) dX7_judge_97 ?_ ?_
            · refine zr_iconst (v := 1) hB (by decide) dX7_judge_111 ?_
              refine zr_iload hB 2 rfl dX7_judge_112 ?_
              refine zr_iadd hB dX7_judge_114 ?_
              refine hi13 _ _ _ _ _ _ ?_
              exact zr_iret hB rfl rfl dX7_judge_115
            · refine zr_lload_n hB 1 rfl rfl dX7_judge_100 ?_
              refine zr_iload hB 0 rfl dX7_judge_101 ?_
              refine zr_lushr hB dX7_judge_103 ?_
              refine zr_lconst (v := 1) hB (by decide) dX7_judge_104 ?_
              refine zr_land hB dX7_judge_105 ?_
              refine zr_lconst (v := 0) hB (by decide) dX7_judge_106 ?_
              refine zr_lcmp hB dX7_judge_107 ?_
              refine zr_ifne (tgt := 116) hB (by decide) dX7_judge_108 ?_ ?_
              · refine zr_aload_n hB 3 rfl rfl dX7_judge_116 ?_
                refine zr_get_X7 (w := 0) (k := 0) (v := .ref (ad 1)) hB rfl (by decide) rfl lf_X7_12 rfl dX7_judge_117 ?_
                refine zr_lconst (v := 1) hB (by decide) dX7_judge_120 ?_
                refine zr_iload hB 0 rfl dX7_judge_121 ?_
                refine zr_lshl hB dX7_judge_123 ?_
                refine zr_callV (st := []) (C := RX6) (As := [.long (zshlL 1 v20)]) (embc := em_l0 I L) hB (mX6_nextPlaces (sK := sK) (sV := sV) hi n 1 (zshlL 1 v20) (Or.inl rfl) I L) (zW_X6 (Or.inl rfl)) rfl rfl lm_X7_307 q2_X6_nextPlaces q3_X6_nextPlaces q4_X6 q5_X6_nextPlaces qd_X6_nextPlaces (by decide) rfl rfl (Nat.le_of_ble_eq_true rfl) ⟨Nat.zero_le _, Nat.zero_le _⟩ dX7_judge_124 (zr_kl0 (fun o24 => ?_))
                refine zr_lstore_n (lv' := [(3, .long o24), (6, .int v20), (5, .int s9.2), (0, .ref (ad 0)), (1, .int a1)]) hB rfl (by decide) rfl dX7_judge_127 ?_
                refine zr_iincL hB (j := 2) (n := 1) (w := 1) rfl (by decide) (by decide) dX7_judge_128 (fun v25 lv' hlv => ?_)
                obtain rfl : lv' = [(5, .int v25), (3, .long o24), (6, .int v20), (0, .ref (ad 0)), (1, .int a1)] := hlv.symm.trans rfl
                refine zr_goto (tgt := 64) hB (by decide) dX7_judge_131 ?_
                exact zr_sub [1, 0, 3, 4] rfl (hc11 (o24, v25))
              · refine zr_iconst (v := 1) hB (by decide) dX7_judge_111 ?_
                refine zr_iload hB 2 rfl dX7_judge_112 ?_
                refine zr_iadd hB dX7_judge_114 ?_
                refine hi13 _ _ _ _ _ _ ?_
                exact zr_iret hB rfl rfl dX7_judge_115
      · refine zr_aload_n hB 0 rfl rfl dX7_judge_42 ?_
        refine zr_ldc (v := (-1000001)) hB lk_X7_55 dX7_judge_43 ?_
        refine zr_callV (st := []) (C := RX7) (As := [.int (-1000001)]) (embc := em_iI L) hB (mX7_finding (sK := sK) (sV := sV) hi (-1000001) I L) (zW_X7 rfl) rfl rfl lm_X7_56 q2_X7_finding q3_X7_finding q4_X7 q5_X7_finding qd_X7_finding (by decide) rfl rfl (Nat.le_of_ble_eq_true rfl) ⟨Nat.zero_le _, Nat.zero_le _⟩ dX7_judge_45 (zr_kiI (fun o28 => ?_))
        exact zr_iret hB rfl rfl dX7_judge_48
    · refine zr_aload_n hB 0 rfl rfl dX7_judge_26 ?_
      refine zr_ldcw (v := (-1000006)) hB lk_X7_271 dX7_judge_27 ?_
      refine zr_callV (st := []) (C := RX7) (As := [.int (-1000006)]) (embc := em_iI L) hB (mX7_finding (sK := sK) (sV := sV) hi (-1000006) I L) (zW_X7 rfl) rfl rfl lm_X7_56 q2_X7_finding q3_X7_finding q4_X7 q5_X7_finding qd_X7_finding (by decide) rfl rfl (Nat.le_of_ble_eq_true rfl) ⟨Nat.zero_le _, Nat.zero_le _⟩ dX7_judge_30 (zr_kiI (fun o31 => ?_))
      exact zr_iret hB rfl rfl dX7_judge_33
  · refine zr_aload_n hB 0 rfl rfl dX7_judge_7 ?_
    refine zr_ldc (v := (-1000001)) hB lk_X7_55 dX7_judge_8 ?_
    refine zr_callV (st := []) (C := RX7) (As := [.int (-1000001)]) (embc := em_iI L) hB (mX7_finding (sK := sK) (sV := sV) hi (-1000001) I L) (zW_X7 rfl) rfl rfl lm_X7_56 q2_X7_finding q3_X7_finding q4_X7 q5_X7_finding qd_X7_finding (by decide) rfl rfl (Nat.le_of_ble_eq_true rfl) ⟨Nat.zero_le _, Nat.zero_le _⟩ dX7_judge_10 (zr_kiI (fun o34 => ?_))
    exact zr_iret hB rfl rfl dX7_judge_13

def fX7_image (I : zI) : Option (Int32 × zI) :=
  zb (fX6_become 10 1 I) fun o3 =>
  zl (zup o3 0 3 1) fun J4 =>
  some (1, J4)
set_option maxHeartbeats 4000000 in
set_option maxRecDepth 100000 in
theorem mX7_image {l : Launch} {D : va_G} {T : zT} {ad sK sV : Nat → Nat} (hi : zInj ad)   (I : zI) (L : zL) : ∀ o, fX7_image I = some o → zMet l yX7_image cX7_image 1 (some .int) 2 61 D T ad sK sV [.ref (ad 0)] I L (em_iI L o) := by
  intro o ho
  refine zMet.of hi (by decide +kernel) (Nat.le_of_ble_eq_true rfl) (fun p e s m args below meth c hB => ?_)
  refine zr_top (emb := em_iI L) (t := fX7_image I) ?_ ho
  unfold fX7_image
  refine zr_aload_n hB 0 rfl rfl dX7_image_0 ?_
  refine zr_get_X7 (w := 0) (k := 1) (v := .ref (ad 10)) hB rfl (by decide) rfl lf_X7_16 rfl dX7_image_1 ?_
  refine zr_aload_n hB 0 rfl rfl dX7_image_4 ?_
  refine zr_get_X7 (w := 0) (k := 0) (v := .ref (ad 1)) hB rfl (by decide) rfl lf_X7_12 rfl dX7_image_5 ?_
  refine zr_callV (st := []) (C := RX6) (As := [.ref (ad 1)]) (embc := em_vI L) hB (mX6_become (sK := sK) (sV := sV) hi 10 1 (Or.inr (Or.inl rfl)) (Or.inl rfl) I L) (zW_X6 (Or.inr (Or.inl rfl))) rfl rfl lm_X7_209 q2_X6_become q3_X6_become q4_X6 q5_X6_become qd_X6_become (by decide) rfl rfl (Nat.le_of_ble_eq_true rfl) ⟨Nat.zero_le _, Nat.zero_le _⟩ dX7_image_8 (zr_kvI (fun o3 => ?_))
  refine zr_aload_n hB 0 rfl rfl dX7_image_11 ?_
  refine zr_iconst (v := 1) hB (by decide) dX7_image_12 ?_
  refine zr_putZ_X7 (w := 0) (k := 3) hB rfl (by decide) rfl rfl (by decide) rfl lf_X7_311 rfl dX7_image_13 ?_
  refine zr_letM (fun J4 => ?_)
  refine zr_iconst (v := 1) hB (by decide) dX7_image_16 ?_
  exact zr_iret hB rfl rfl dX7_image_17

def fX7_undo (I : zI) : Option (Int32 × zI) :=
  if (I 0 3) = 0 then
    zb (fX7_finding (-1000004) I) fun o6 =>
    some (o6.1, o6.2)
  else
  zb (fX6_become 1 10 I) fun o3 =>
  some (o3 1 15, o3)
set_option maxHeartbeats 4000000 in
set_option maxRecDepth 100000 in
theorem mX7_undo {l : Launch} {D : va_G} {T : zT} {ad sK sV : Nat → Nat} (hi : zInj ad)   (I : zI) (L : zL) : ∀ o, fX7_undo I = some o → zMet l yX7_undo cX7_undo 1 (some .int) 2 61 D T ad sK sV [.ref (ad 0)] I L (em_iI L o) := by
  intro o ho
  refine zMet.of hi (by decide +kernel) (Nat.le_of_ble_eq_true rfl) (fun p e s m args below meth c hB => ?_)
  refine zr_top (emb := em_iI L) (t := fX7_undo I) ?_ ho
  unfold fX7_undo
  refine zr_aload_n hB 0 rfl rfl dX7_undo_0 ?_
  refine zr_get_X7 (w := 0) (k := 3) (v := .int (I 0 3)) hB rfl (by decide) rfl lf_X7_311 rfl dX7_undo_1 ?_
  refine zr_ifne (tgt := 14) hB (by decide) dX7_undo_4 ?_ ?_
  · refine zr_aload_n hB 0 rfl rfl dX7_undo_14 ?_
    refine zr_get_X7 (w := 0) (k := 0) (v := .ref (ad 1)) hB rfl (by decide) rfl lf_X7_12 rfl dX7_undo_15 ?_
    refine zr_aload_n hB 0 rfl rfl dX7_undo_18 ?_
    refine zr_get_X7 (w := 0) (k := 1) (v := .ref (ad 10)) hB rfl (by decide) rfl lf_X7_16 rfl dX7_undo_19 ?_
    refine zr_callV (st := []) (C := RX6) (As := [.ref (ad 10)]) (embc := em_vI L) hB (mX6_become (sK := sK) (sV := sV) hi 1 10 (Or.inl rfl) (Or.inr (Or.inl rfl)) I L) (zW_X6 (Or.inl rfl)) rfl rfl lm_X7_209 q2_X6_become q3_X6_become q4_X6 q5_X6_become qd_X6_become (by decide) rfl rfl (Nat.le_of_ble_eq_true rfl) ⟨Nat.zero_le _, Nat.zero_le _⟩ dX7_undo_22 (zr_kvI (fun o3 => ?_))
    refine zr_aload_n hB 0 rfl rfl dX7_undo_25 ?_
    refine zr_get_X7 (w := 0) (k := 0) (v := .ref (ad 1)) hB rfl (by decide) rfl lf_X7_12 rfl dX7_undo_26 ?_
    refine zr_get_X6 (w := 1) (k := 15) (v := .int (o3 1 15)) hB (Or.inl rfl) (by decide) rfl lf_X7_162 rfl dX7_undo_29 ?_
    exact zr_iret hB rfl rfl dX7_undo_32
  · refine zr_aload_n hB 0 rfl rfl dX7_undo_7 ?_
    refine zr_ldc (v := (-1000004)) hB lk_X7_180 dX7_undo_8 ?_
    refine zr_callV (st := []) (C := RX7) (As := [.int (-1000004)]) (embc := em_iI L) hB (mX7_finding (sK := sK) (sV := sV) hi (-1000004) I L) (zW_X7 rfl) rfl rfl lm_X7_56 q2_X7_finding q3_X7_finding q4_X7 q5_X7_finding qd_X7_finding (by decide) rfl rfl (Nat.le_of_ble_eq_true rfl) ⟨Nat.zero_le _, Nat.zero_le _⟩ dX7_undo_10 (zr_kiI (fun o6 => ?_))
    exact zr_iret hB rfl rfl dX7_undo_13

def fX7_tear (I : zI) : Option (Int32 × zI) :=
  if (I 0 3) = 0 then
    zl (zup I 0 3 0) fun J1 =>
    some (0, J1)
  else
  zl (zup I 0 3 0) fun J2 =>
  some (1, J2)
set_option maxHeartbeats 4000000 in
set_option maxRecDepth 100000 in
theorem mX7_tear {l : Launch} {D : va_G} {T : zT} {ad sK sV : Nat → Nat} (hi : zInj ad)   (I : zI) (L : zL) : ∀ o, fX7_tear I = some o → zMet l yX7_tear cX7_tear 2 (some .int) 0 0 D T ad sK sV [.ref (ad 0)] I L (em_iI L o) := by
  intro o ho
  refine zMet.of hi (by decide +kernel) (Nat.le_of_ble_eq_true rfl) (fun p e s m args below meth c hB => ?_)
  refine zr_top (emb := em_iI L) (t := fX7_tear I) ?_ ho
  unfold fX7_tear
  refine zr_aload_n hB 0 rfl rfl dX7_tear_0 ?_
  refine zr_get_X7 (w := 0) (k := 3) (v := .int (I 0 3)) hB rfl (by decide) rfl lf_X7_311 rfl dX7_tear_1 ?_
  refine zr_ifeq (tgt := 11) hB (by decide) dX7_tear_4 ?_ ?_
  · refine zr_iconst (v := 0) hB (by decide) dX7_tear_11 ?_
    refine zr_istore_n (lv' := [(1, .int 0), (0, .ref (ad 0))]) hB rfl (by decide) rfl dX7_tear_12 ?_
    refine zr_aload_n hB 1 rfl rfl dX7_tear_13 ?_
    refine zr_iconst (v := 0) hB (by decide) dX7_tear_14 ?_
    refine zr_putZ_X7 (w := 0) (k := 3) hB rfl (by decide) rfl rfl (by decide) rfl lf_X7_311 rfl dX7_tear_15 ?_
    refine zr_letM (fun J1 => ?_)
    refine zr_iload_n hB 0 rfl rfl dX7_tear_18 ?_
    exact zr_iret hB rfl rfl dX7_tear_19
  · refine zr_iconst (v := 1) hB (by decide) dX7_tear_7 ?_
    refine zr_goto (tgt := 12) hB (by decide) dX7_tear_8 ?_
    refine zr_istore_n (lv' := [(1, .int 1), (0, .ref (ad 0))]) hB rfl (by decide) rfl dX7_tear_12 ?_
    refine zr_aload_n hB 1 rfl rfl dX7_tear_13 ?_
    refine zr_iconst (v := 0) hB (by decide) dX7_tear_14 ?_
    refine zr_putZ_X7 (w := 0) (k := 3) hB rfl (by decide) rfl rfl (by decide) rfl lf_X7_311 rfl dX7_tear_15 ?_
    refine zr_letM (fun J2 => ?_)
    refine zr_iload_n hB 0 rfl rfl dX7_tear_18 ?_
    exact zr_iret hB rfl rfl dX7_tear_19

def gX6_fullSpots_4 (w : Nat) (I : zI) (s1 : Int32 × Int32) : Option ((Int32 × Int32) ⊕ (Int32)) :=
  if 10 ≤ s1.2 then
    some (.inr s1.1)
  else
  zg s1.2 10 (
  if (I (w + 8) (zn s1.2)) = (-1) then
    zl (s1.2 + 1) fun v10 =>
    some (.inl (s1.1, v10))
  else
  zl (s1.1 + 1) fun v11 =>
  zl (s1.2 + 1) fun v12 =>
  some (.inl (v11, v12)))
def fX6_fullSpots (n : Nat) (w : Nat) (I : zI) : Option (Int32) :=
  zb (zit (gX6_fullSpots_4 w I) n (0, 0)) fun x2 : Int32 =>
  some x2
set_option maxHeartbeats 4000000 in
set_option maxRecDepth 100000 in
theorem mX6_fullSpots {l : Launch} {D : va_G} {T : zT} {ad sK sV : Nat → Nat} (hi : zInj ad) (n : Nat) (w : Nat) (hw : zO_X6 w) (I : zI) (L : zL) : ∀ o, fX6_fullSpots n w I = some o → zMet l yX6_fullSpots cX6_fullSpots 3 (some .int) 0 0 D T ad sK sV [.ref (ad w)] I L (em_i0 I L o) := by
  intro o ho
  refine zMet.of hi (by decide +kernel) (Nat.le_of_ble_eq_true rfl) (fun p e s m args below meth c hB => ?_)
  refine zr_top (emb := em_i0 I L) (t := fX6_fullSpots n w I) ?_ ho
  unfold fX6_fullSpots
  refine zr_iconst (v := 0) hB (by decide) dX6_fullSpots_0 ?_
  refine zr_istore_n (lv' := [(1, .int 0), (0, .ref (ad w))]) hB rfl (by decide) rfl dX6_fullSpots_1 ?_
  refine zr_iconst (v := 0) hB (by decide) dX6_fullSpots_2 ?_
  refine zr_istore_n (lv' := [(2, .int 0), (1, .int 0), (0, .ref (ad w))]) hB rfl (by decide) rfl dX6_fullSpots_3 ?_
  refine zr_join (pcJ := 29) (fun x2 : Int32 => [(1, .int x2)]) (fun _ => []) (fun x2 => I) (fun x2 => L) (fun x2 => ?_) (fun K8 hx7 => ?_)
  · refine zr_iload_n hB 0 rfl rfl dX6_fullSpots_29 ?_
    exact zr_iret hB rfl rfl dX6_fullSpots_30
  · refine zr_sub (lv' := (fun s1 : Int32 × Int32 => [(1, .int s1.1), (2, .int s1.2), (0, .ref (ad w))]) (0, 0)) [1, 0, 2] rfl (zr_loop (fun s1 : Int32 × Int32 => [(1, .int s1.1), (2, .int s1.2), (0, .ref (ad w))]) (fun s1 => I) (fun s1 => L) (fun x2 : Int32 => [(1, .int x2)]) (fun x2 => I) (fun x2 => L) hx7 (fun s1 K9 hc3 hx4 => ?_) n (0, 0))
    unfold gX6_fullSpots_4
    refine zr_iload_n hB 1 rfl rfl dX6_fullSpots_4 ?_
    refine zr_bipush (v := 10) hB (by decide) dX6_fullSpots_5 ?_
    refine zr_icmp_ge (tgt := 29) hB (by decide) dX6_fullSpots_7 ?_ ?_
    · exact zr_sub [0] rfl (hx4 s1.1)
    · refine zr_aload_n hB 2 rfl rfl dX6_fullSpots_10 ?_
      refine zr_get_X6 (w := w) (k := 17) (v := .ref (ad (w + 8))) hB hw (by decide) rfl lf_X6_40 rfl dX6_fullSpots_11 ?_
      refine zr_iload_n hB 1 rfl rfl dX6_fullSpots_14 ?_
      refine zr_iaload hB (zA_X6_8 hw) dX6_fullSpots_15 ?_
      refine zr_iconst (v := (-1)) hB (by decide) dX6_fullSpots_16 ?_
      refine zr_icmp_eq (tgt := 23) hB (by decide) dX6_fullSpots_17 ?_ ?_
      · refine zr_iincL hB (j := 1) (n := 1) (w := 1) rfl (by decide) (by decide) dX6_fullSpots_23 (fun v10 lv' hlv => ?_)
        obtain rfl : lv' = [(2, .int v10), (1, .int s1.1), (0, .ref (ad w))] := hlv.symm.trans rfl
        refine zr_goto (tgt := 4) hB (by decide) dX6_fullSpots_26 ?_
        exact zr_sub [1, 0, 2] rfl (hc3 (s1.1, v10))
      · refine zr_iincL hB (j := 0) (n := 1) (w := 1) rfl (by decide) (by decide) dX6_fullSpots_20 (fun v11 lv' hlv => ?_)
        obtain rfl : lv' = [(1, .int v11), (2, .int s1.2), (0, .ref (ad w))] := hlv.symm.trans rfl
        refine zr_iincL hB (j := 1) (n := 1) (w := 1) rfl (by decide) (by decide) dX6_fullSpots_23 (fun v12 lv' hlv => ?_)
        obtain rfl : lv' = [(2, .int v12), (1, .int v11), (0, .ref (ad w))] := hlv.symm.trans rfl
        refine zr_goto (tgt := 4) hB (by decide) dX6_fullSpots_26 ?_
        exact zr_sub [1, 0, 2] rfl (hc3 (v11, v12))

def fX7_count (n : Nat) (a1 : Int32) (I : zI) : Option (Int32 × zI) :=
  if a1 = 0 then
    some (I 1 15, I)
  else
  if a1 = 1 then
    some (I 1 4, I)
  else
  if a1 = 2 then
    some (I 1 8, I)
  else
  if a1 = 3 then
    some (I 1 11, I)
  else
  if a1 = 4 then
    some (I 1 12, I)
  else
  if a1 = 5 then
    some (I 33 1, I)
  else
  if a1 = 6 then
    some (I 1 16, I)
  else
  if a1 = 7 then
    zb (fX6_fullSpots n 1 I) fun o2 =>
    some (o2, I)
  else
  zb (fX7_finding (-1000001) I) fun o5 =>
  some (o5.1, o5.2)
set_option maxHeartbeats 4000000 in
set_option maxRecDepth 100000 in
theorem mX7_count {l : Launch} {D : va_G} {T : zT} {ad sK sV : Nat → Nat} (hi : zInj ad) (n : Nat) (a1 : Int32)  (I : zI) (L : zL) : ∀ o, fX7_count n a1 I = some o → zMet l yX7_count cX7_count 2 (some .int) 2 44 D T ad sK sV [.ref (ad 0), .int a1] I L (em_iI L o) := by
  intro o ho
  refine zMet.of hi (by decide +kernel) (Nat.le_of_ble_eq_true rfl) (fun p e s m args below meth c hB => ?_)
  refine zr_top (emb := em_iI L) (t := fX7_count n a1 I) ?_ ho
  unfold fX7_count
  refine zr_iload_n hB 1 rfl rfl dX7_count_0 ?_
  refine zr_case (fun q1_0 => ?_) (fun q1_0 => ?_)
  · refine zr_tsIn (tgt := 48) (v := 0) hB q1_0 dX7_count_1 (by decide) (by decide) rfl (by decide) ?_
    refine zr_aload_n hB 0 rfl rfl dX7_count_48 ?_
    refine zr_get_X7 (w := 0) (k := 0) (v := .ref (ad 1)) hB rfl (by decide) rfl lf_X7_12 rfl dX7_count_49 ?_
    refine zr_get_X6 (w := 1) (k := 15) (v := .int (I 1 15)) hB (Or.inl rfl) (by decide) rfl lf_X7_162 rfl dX7_count_52 ?_
    exact zr_iret hB rfl rfl dX7_count_55
  · refine zr_case (fun q1_1 => ?_) (fun q1_1 => ?_)
    · refine zr_tsIn (tgt := 56) (v := 1) hB q1_1 dX7_count_1 (by decide) (by decide) rfl (by decide) ?_
      refine zr_aload_n hB 0 rfl rfl dX7_count_56 ?_
      refine zr_get_X7 (w := 0) (k := 0) (v := .ref (ad 1)) hB rfl (by decide) rfl lf_X7_12 rfl dX7_count_57 ?_
      refine zr_get_X6 (w := 1) (k := 4) (v := .int (I 1 4)) hB (Or.inl rfl) (by decide) rfl lf_X7_75 rfl dX7_count_60 ?_
      exact zr_iret hB rfl rfl dX7_count_63
    · refine zr_case (fun q1_2 => ?_) (fun q1_2 => ?_)
      · refine zr_tsIn (tgt := 64) (v := 2) hB q1_2 dX7_count_1 (by decide) (by decide) rfl (by decide) ?_
        refine zr_aload_n hB 0 rfl rfl dX7_count_64 ?_
        refine zr_get_X7 (w := 0) (k := 0) (v := .ref (ad 1)) hB rfl (by decide) rfl lf_X7_12 rfl dX7_count_65 ?_
        refine zr_get_X6 (w := 1) (k := 8) (v := .int (I 1 8)) hB (Or.inl rfl) (by decide) rfl lf_X7_103 rfl dX7_count_68 ?_
        exact zr_iret hB rfl rfl dX7_count_71
      · refine zr_case (fun q1_3 => ?_) (fun q1_3 => ?_)
        · refine zr_tsIn (tgt := 72) (v := 3) hB q1_3 dX7_count_1 (by decide) (by decide) rfl (by decide) ?_
          refine zr_aload_n hB 0 rfl rfl dX7_count_72 ?_
          refine zr_get_X7 (w := 0) (k := 0) (v := .ref (ad 1)) hB rfl (by decide) rfl lf_X7_12 rfl dX7_count_73 ?_
          refine zr_get_X6 (w := 1) (k := 11) (v := .int (I 1 11)) hB (Or.inl rfl) (by decide) rfl lf_X7_159 rfl dX7_count_76 ?_
          exact zr_iret hB rfl rfl dX7_count_79
        · refine zr_case (fun q1_4 => ?_) (fun q1_4 => ?_)
          · refine zr_tsIn (tgt := 80) (v := 4) hB q1_4 dX7_count_1 (by decide) (by decide) rfl (by decide) ?_
            refine zr_aload_n hB 0 rfl rfl dX7_count_80 ?_
            refine zr_get_X7 (w := 0) (k := 0) (v := .ref (ad 1)) hB rfl (by decide) rfl lf_X7_12 rfl dX7_count_81 ?_
            refine zr_get_X6 (w := 1) (k := 12) (v := .int (I 1 12)) hB (Or.inl rfl) (by decide) rfl lf_X7_174 rfl dX7_count_84 ?_
            exact zr_iret hB rfl rfl dX7_count_87
          · refine zr_case (fun q1_5 => ?_) (fun q1_5 => ?_)
            · refine zr_tsIn (tgt := 88) (v := 5) hB q1_5 dX7_count_1 (by decide) (by decide) rfl (by decide) ?_
              refine zr_aload_n hB 0 rfl rfl dX7_count_88 ?_
              refine zr_get_X7 (w := 0) (k := 5) (v := .ref (ad 38)) hB rfl (by decide) rfl lf_X7_32 rfl dX7_count_89 ?_
              refine zr_get_X4 (w := 38) (k := 0) (v := .ref (ad 33)) hB rfl (by decide) rfl lf_X7_246 rfl dX7_count_92 ?_
              refine zr_get_X3 (w := 33) (k := 1) (v := .int (I 33 1)) hB rfl (by decide) rfl lf_X7_250 rfl dX7_count_95 ?_
              exact zr_iret hB rfl rfl dX7_count_98
            · refine zr_case (fun q1_6 => ?_) (fun q1_6 => ?_)
              · refine zr_tsIn (tgt := 99) (v := 6) hB q1_6 dX7_count_1 (by decide) (by decide) rfl (by decide) ?_
                refine zr_aload_n hB 0 rfl rfl dX7_count_99 ?_
                refine zr_get_X7 (w := 0) (k := 0) (v := .ref (ad 1)) hB rfl (by decide) rfl lf_X7_12 rfl dX7_count_100 ?_
                refine zr_get_X6 (w := 1) (k := 16) (v := .int (I 1 16)) hB (Or.inl rfl) (by decide) rfl lf_X7_243 rfl dX7_count_103 ?_
                exact zr_iret hB rfl rfl dX7_count_106
              · refine zr_case (fun q1_7 => ?_) (fun q1_7 => ?_)
                · refine zr_tsIn (tgt := 107) (v := 7) hB q1_7 dX7_count_1 (by decide) (by decide) rfl (by decide) ?_
                  refine zr_aload_n hB 0 rfl rfl dX7_count_107 ?_
                  refine zr_get_X7 (w := 0) (k := 0) (v := .ref (ad 1)) hB rfl (by decide) rfl lf_X7_12 rfl dX7_count_108 ?_
                  refine zr_callV (st := []) (C := RX6) (As := []) (embc := em_i0 I L) hB (mX6_fullSpots (sK := sK) (sV := sV) hi n 1 (Or.inl rfl) I L) (zW_X6 (Or.inl rfl)) rfl rfl lm_X7_315 q2_X6_fullSpots q3_X6_fullSpots q4_X6 q5_X6_fullSpots qd_X6_fullSpots (by decide) rfl rfl (Nat.le_of_ble_eq_true rfl) ⟨Nat.zero_le _, Nat.zero_le _⟩ dX7_count_111 (zr_ki0 (fun o2 => ?_))
                  exact zr_iret hB rfl rfl dX7_count_114
                · refine zr_tsOut (tgt := 115) hB dX7_count_1 (by have h0 := lv_neT q1_0 (show (0 : Int32).toInt = 0 from rfl); have h1 := lv_neT q1_1 (show (1 : Int32).toInt = 1 from rfl); have h2 := lv_neT q1_2 (show (2 : Int32).toInt = 2 from rfl); have h3 := lv_neT q1_3 (show (3 : Int32).toInt = 3 from rfl); have h4 := lv_neT q1_4 (show (4 : Int32).toInt = 4 from rfl); have h5 := lv_neT q1_5 (show (5 : Int32).toInt = 5 from rfl); have h6 := lv_neT q1_6 (show (6 : Int32).toInt = 6 from rfl); have h7 := lv_neT q1_7 (show (7 : Int32).toInt = 7 from rfl); omega) (by decide) ?_
                  refine zr_aload_n hB 0 rfl rfl dX7_count_115 ?_
                  refine zr_ldc (v := (-1000001)) hB lk_X7_55 dX7_count_116 ?_
                  refine zr_callV (st := []) (C := RX7) (As := [.int (-1000001)]) (embc := em_iI L) hB (mX7_finding (sK := sK) (sV := sV) hi (-1000001) I L) (zW_X7 rfl) rfl rfl lm_X7_56 q2_X7_finding q3_X7_finding q4_X7 q5_X7_finding qd_X7_finding (by decide) rfl rfl (Nat.le_of_ble_eq_true rfl) ⟨Nat.zero_le _, Nat.zero_le _⟩ dX7_count_118 (zr_kiI (fun o5 => ?_))
                  exact zr_iret hB rfl rfl dX7_count_121

def gX7_status_32 (I : zI) (s3 : Int32 × Int32) : Option ((Int32 × Int32) ⊕ (Int32)) :=
  if 7 ≤ s3.2 then
    some (.inr s3.1)
  else
  zg s3.2 7 (
  zl (s3.1 + (I 41 (zn s3.2))) fun v12 =>
  zl (s3.2 + 1) fun v13 =>
  some (.inl (v12, v13)))
def fX7_status (n : Nat) (a1 : Int32) (I : zI) : Option (Int32 × zI) :=
  zb (fX7_isWithin a1 (-1) 6) fun o2 =>
  if o2 = 0 then
    zb (fX7_finding (-1000001) I) fun o16 =>
    some (o16.1, o16.2)
  else
  if a1 < 0 then
    zb (zit (gX7_status_32 I) n (0, 0)) fun x4 : Int32 =>
    some (x4, I)
  else
  zg a1 7 (
  some (I 41 (zn a1), I))
set_option maxHeartbeats 4000000 in
set_option maxRecDepth 100000 in
theorem mX7_status {l : Launch} {D : va_G} {T : zT} {ad sK sV : Nat → Nat} (hi : zInj ad) (n : Nat) (a1 : Int32)  (I : zI) (L : zL) : ∀ o, fX7_status n a1 I = some o → zMet l yX7_status cX7_status 4 (some .int) 2 44 D T ad sK sV [.ref (ad 0), .int a1] I L (em_iI L o) := by
  intro o ho
  refine zMet.of hi (by decide +kernel) (Nat.le_of_ble_eq_true rfl) (fun p e s m args below meth c hB => ?_)
  refine zr_top (emb := em_iI L) (t := fX7_status n a1 I) ?_ ho
  unfold fX7_status
  refine zr_iload_n hB 1 rfl rfl dX7_status_0 ?_
  refine zr_iconst (v := (-1)) hB (by decide) dX7_status_1 ?_
  refine zr_bipush (v := 6) hB (by decide) dX7_status_2 ?_
  refine zr_callS (st := []) (As := [.int a1, .int (-1), .int 6]) (embc := em_i0 I L) hB (mX7_isWithin (sK := sK) (sV := sV) hi a1 (-1) 6 I L) lm_X7_51 q2_X7_isWithin q4_X7 q5_X7_isWithin qd_X7_isWithin (by decide) rfl rfl (Nat.le_of_ble_eq_true rfl) ⟨Nat.zero_le _, Nat.zero_le _⟩ dX7_status_4 (zr_ki0 (fun o2 => ?_))
  refine zr_ifne (tgt := 17) hB (by decide) dX7_status_7 ?_ ?_
  · refine zr_iload_n hB 1 rfl rfl dX7_status_17 ?_
    refine zr_iflt (tgt := 28) hB (by decide) dX7_status_18 ?_ ?_
    · refine zr_iconst (v := 0) hB (by decide) dX7_status_28 ?_
      refine zr_istore_n (lv' := [(2, .int 0), (0, .ref (ad 0)), (1, .int a1)]) hB rfl (by decide) rfl dX7_status_29 ?_
      refine zr_iconst (v := 0) hB (by decide) dX7_status_30 ?_
      refine zr_istore_n (lv' := [(3, .int 0), (2, .int 0), (0, .ref (ad 0)), (1, .int a1)]) hB rfl (by decide) rfl dX7_status_31 ?_
      refine zr_join (pcJ := 53) (fun x4 : Int32 => [(2, .int x4)]) (fun _ => []) (fun x4 => I) (fun x4 => L) (fun x4 => ?_) (fun K10 hx9 => ?_)
      · refine zr_iload_n hB 0 rfl rfl dX7_status_53 ?_
        exact zr_iret hB rfl rfl dX7_status_54
      · refine zr_sub (lv' := (fun s3 : Int32 × Int32 => [(2, .int s3.1), (3, .int s3.2), (0, .ref (ad 0))]) (0, 0)) [1, 0, 2] rfl (zr_loop (fun s3 : Int32 × Int32 => [(2, .int s3.1), (3, .int s3.2), (0, .ref (ad 0))]) (fun s3 => I) (fun s3 => L) (fun x4 : Int32 => [(2, .int x4)]) (fun x4 => I) (fun x4 => L) hx9 (fun s3 K11 hc5 hx6 => ?_) n (0, 0))
        unfold gX7_status_32
        refine zr_iload_n hB 1 rfl rfl dX7_status_32 ?_
        refine zr_bipush (v := 7) hB (by decide) dX7_status_33 ?_
        refine zr_icmp_ge (tgt := 53) hB (by decide) dX7_status_35 ?_ ?_
        · exact zr_sub [0] rfl (hx6 s3.1)
        · refine zr_iload_n hB 0 rfl rfl dX7_status_38 ?_
          refine zr_aload_n hB 2 rfl rfl dX7_status_39 ?_
          refine zr_get_X7 (w := 0) (k := 7) (v := .ref (ad 41)) hB rfl (by decide) rfl lf_X7_42 rfl dX7_status_40 ?_
          refine zr_iload_n hB 1 rfl rfl dX7_status_43 ?_
          refine zr_iaload hB zA_41 dX7_status_44 ?_
          refine zr_iadd hB dX7_status_45 ?_
          refine zr_letI (fun v12 => ?_)
          refine zr_istore_n (lv' := [(2, .int v12), (3, .int s3.2), (0, .ref (ad 0))]) hB rfl (by decide) rfl dX7_status_46 ?_
          refine zr_iincL hB (j := 1) (n := 1) (w := 1) rfl (by decide) (by decide) dX7_status_47 (fun v13 lv' hlv => ?_)
          obtain rfl : lv' = [(3, .int v13), (2, .int v12), (0, .ref (ad 0))] := hlv.symm.trans rfl
          refine zr_goto (tgt := 32) hB (by decide) dX7_status_50 ?_
          exact zr_sub [1, 0, 2] rfl (hc5 (v12, v13))
    · refine zr_aload_n hB 0 rfl rfl dX7_status_21 ?_
      refine zr_get_X7 (w := 0) (k := 7) (v := .ref (ad 41)) hB rfl (by decide) rfl lf_X7_42 rfl dX7_status_22 ?_
      refine zr_iload_n hB 1 rfl rfl dX7_status_25 ?_
      refine zr_iaload hB zA_41 dX7_status_26 ?_
      exact zr_iret hB rfl rfl dX7_status_27
  · refine zr_aload_n hB 0 rfl rfl dX7_status_10 ?_
    refine zr_ldc (v := (-1000001)) hB lk_X7_55 dX7_status_11 ?_
    refine zr_callV (st := []) (C := RX7) (As := [.int (-1000001)]) (embc := em_iI L) hB (mX7_finding (sK := sK) (sV := sV) hi (-1000001) I L) (zW_X7 rfl) rfl rfl lm_X7_56 q2_X7_finding q3_X7_finding q4_X7 q5_X7_finding qd_X7_finding (by decide) rfl rfl (Nat.le_of_ble_eq_true rfl) ⟨Nat.zero_le _, Nat.zero_le _⟩ dX7_status_13 (zr_kiI (fun o16 => ?_))
    exact zr_iret hB rfl rfl dX7_status_16

def fX8_opensDoor (a1 : Int32) (a2 : Int32) (a3 : Int32) (I : zI) : Option (zI) :=
  zb (
    if a3 = 0 then
      zg (0 + a1) 120 (
      some ((I 51 (zn (0 + a1))) &&& ((zshl 1 a2) ^^^ (-1))))
    else
    zg (0 + a1) 120 (
    some ((I 51 (zn (0 + a1))) ||| (zshl 1 a2)))) fun x1 : Int32 =>
  zg (0 + a1) 120 (
  zl (zup I 51 (zn (0 + a1)) x1) fun J5 =>
  if a3 = 0 then
    zg (0 + a2) 120 (
    zg (0 + a2) 120 (
    zl (zup J5 51 (zn (0 + a2)) ((J5 51 (zn (0 + a2))) &&& ((zshl 1 a1) ^^^ (-1)))) fun J6 =>
    some J6))
  else
  zg (0 + a2) 120 (
  zg (0 + a2) 120 (
  zl (zup J5 51 (zn (0 + a2)) ((J5 51 (zn (0 + a2))) ||| (zshl 1 a1))) fun J7 =>
  some J7)))
set_option maxHeartbeats 4000000 in
set_option maxRecDepth 100000 in
theorem mX8_opensDoor {l : Launch} {D : va_G} {T : zT} {ad sK sV : Nat → Nat} (hi : zInj ad) (a1 : Int32) (a2 : Int32) (a3 : Int32)  (I : zI) (L : zL) : ∀ o, fX8_opensDoor a1 a2 a3 I = some o → zMet l yX8_opensDoor cX8_opensDoor 4 none 0 0 D T ad sK sV [.ref (ad 50), .int a1, .int a2, .int a3] I L (em_vI L o) := by
  intro o ho
  refine zMet.of hi (by decide +kernel) (Nat.le_of_ble_eq_true rfl) (fun p e s m args below meth c hB => ?_)
  refine zr_top (emb := em_vI L) (t := fX8_opensDoor a1 a2 a3 I) ?_ ho
  unfold fX8_opensDoor
  refine zr_aload_n hB 0 rfl rfl dX8_opensDoor_0 ?_
  refine zr_get_X8 (w := 50) (k := 0) (v := .ref (ad 51)) hB rfl (by decide) rfl lf_X8_9 rfl dX8_opensDoor_1 ?_
  refine zr_iconst (v := 0) hB (by decide) dX8_opensDoor_4 ?_
  refine zr_iload_n hB 1 rfl rfl dX8_opensDoor_5 ?_
  refine zr_iadd hB dX8_opensDoor_6 ?_
  refine zr_iload_n hB 3 rfl rfl dX8_opensDoor_7 ?_
  refine zr_join (pcJ := 40) (fun x1 : Int32 => [(0, .ref (ad 50)), (1, .int a1), (2, .int a2), (3, .int a3)]) (fun x1 => [.int x1, .int (0 + a1), .ref (ad 51)]) (fun x1 => I) (fun x1 => L) (fun x1 => ?_) (fun K4 hj2 => ?_)
  · refine zr_iastore hB zA_51 dX8_opensDoor_40 ?_
    refine zr_letM (fun J5 => ?_)
    refine zr_aload_n hB 0 rfl rfl dX8_opensDoor_41 ?_
    refine zr_get_X8 (w := 50) (k := 0) (v := .ref (ad 51)) hB rfl (by decide) rfl lf_X8_9 rfl dX8_opensDoor_42 ?_
    refine zr_iconst (v := 0) hB (by decide) dX8_opensDoor_45 ?_
    refine zr_iload_n hB 2 rfl rfl dX8_opensDoor_46 ?_
    refine zr_iadd hB dX8_opensDoor_47 ?_
    refine zr_iload_n hB 3 rfl rfl dX8_opensDoor_48 ?_
    refine zr_ifeq (tgt := 67) hB (by decide) dX8_opensDoor_49 ?_ ?_
    · refine zr_aload_n hB 0 rfl rfl dX8_opensDoor_67 ?_
      refine zr_get_X8 (w := 50) (k := 0) (v := .ref (ad 51)) hB rfl (by decide) rfl lf_X8_9 rfl dX8_opensDoor_68 ?_
      refine zr_iconst (v := 0) hB (by decide) dX8_opensDoor_71 ?_
      refine zr_iload_n hB 2 rfl rfl dX8_opensDoor_72 ?_
      refine zr_iadd hB dX8_opensDoor_73 ?_
      refine zr_iaload hB zA_51 dX8_opensDoor_74 ?_
      refine zr_iconst (v := 1) hB (by decide) dX8_opensDoor_75 ?_
      refine zr_iload_n hB 1 rfl rfl dX8_opensDoor_76 ?_
      refine zr_ishl hB dX8_opensDoor_77 ?_
      refine zr_iconst (v := (-1)) hB (by decide) dX8_opensDoor_78 ?_
      refine zr_ixor hB dX8_opensDoor_79 ?_
      refine zr_iand hB dX8_opensDoor_80 ?_
      refine zr_iastore hB zA_51 dX8_opensDoor_81 ?_
      refine zr_letM (fun J6 => ?_)
      exact zr_vret hB rfl rfl dX8_opensDoor_82
    · refine zr_aload_n hB 0 rfl rfl dX8_opensDoor_52 ?_
      refine zr_get_X8 (w := 50) (k := 0) (v := .ref (ad 51)) hB rfl (by decide) rfl lf_X8_9 rfl dX8_opensDoor_53 ?_
      refine zr_iconst (v := 0) hB (by decide) dX8_opensDoor_56 ?_
      refine zr_iload_n hB 2 rfl rfl dX8_opensDoor_57 ?_
      refine zr_iadd hB dX8_opensDoor_58 ?_
      refine zr_iaload hB zA_51 dX8_opensDoor_59 ?_
      refine zr_iconst (v := 1) hB (by decide) dX8_opensDoor_60 ?_
      refine zr_iload_n hB 1 rfl rfl dX8_opensDoor_61 ?_
      refine zr_ishl hB dX8_opensDoor_62 ?_
      refine zr_ior hB dX8_opensDoor_63 ?_
      refine zr_goto (tgt := 81) hB (by decide) dX8_opensDoor_64 ?_
      refine zr_iastore hB zA_51 dX8_opensDoor_81 ?_
      refine zr_letM (fun J7 => ?_)
      exact zr_vret hB rfl rfl dX8_opensDoor_82
  · refine zr_ifeq (tgt := 26) hB (by decide) dX8_opensDoor_8 ?_ ?_
    · refine zr_aload_n hB 0 rfl rfl dX8_opensDoor_26 ?_
      refine zr_get_X8 (w := 50) (k := 0) (v := .ref (ad 51)) hB rfl (by decide) rfl lf_X8_9 rfl dX8_opensDoor_27 ?_
      refine zr_iconst (v := 0) hB (by decide) dX8_opensDoor_30 ?_
      refine zr_iload_n hB 1 rfl rfl dX8_opensDoor_31 ?_
      refine zr_iadd hB dX8_opensDoor_32 ?_
      refine zr_iaload hB zA_51 dX8_opensDoor_33 ?_
      refine zr_iconst (v := 1) hB (by decide) dX8_opensDoor_34 ?_
      refine zr_iload_n hB 2 rfl rfl dX8_opensDoor_35 ?_
      refine zr_ishl hB dX8_opensDoor_36 ?_
      refine zr_iconst (v := (-1)) hB (by decide) dX8_opensDoor_37 ?_
      refine zr_ixor hB dX8_opensDoor_38 ?_
      refine zr_iand hB dX8_opensDoor_39 ?_
      exact zr_sub [0, 1, 2, 3] rfl (hj2 ((I 51 (zn (0 + a1))) &&& ((zshl 1 a2) ^^^ (-1))))
    · refine zr_aload_n hB 0 rfl rfl dX8_opensDoor_11 ?_
      refine zr_get_X8 (w := 50) (k := 0) (v := .ref (ad 51)) hB rfl (by decide) rfl lf_X8_9 rfl dX8_opensDoor_12 ?_
      refine zr_iconst (v := 0) hB (by decide) dX8_opensDoor_15 ?_
      refine zr_iload_n hB 1 rfl rfl dX8_opensDoor_16 ?_
      refine zr_iadd hB dX8_opensDoor_17 ?_
      refine zr_iaload hB zA_51 dX8_opensDoor_18 ?_
      refine zr_iconst (v := 1) hB (by decide) dX8_opensDoor_19 ?_
      refine zr_iload_n hB 2 rfl rfl dX8_opensDoor_20 ?_
      refine zr_ishl hB dX8_opensDoor_21 ?_
      refine zr_ior hB dX8_opensDoor_22 ?_
      refine zr_goto (tgt := 40) hB (by decide) dX8_opensDoor_23 ?_
      exact zr_sub [0, 1, 2, 3] rfl (hj2 ((I 51 (zn (0 + a1))) ||| (zshl 1 a2)))

def gX8_become_2 (a1 : Nat) (a2 : Nat) (s1 : Int32 × zI) : Option ((Int32 × zI) ⊕ (zI)) :=
  if 120 ≤ s1.1 then
    some (.inr s1.2)
  else
  zg s1.1 120 (
  zg s1.1 120 (
  zl (zup s1.2 a2 (zn s1.1) (s1.2 a1 (zn s1.1))) fun J10 =>
  zl (s1.1 + 1) fun v11 =>
  some (.inl (v11, J10))))
def fX8_become (n : Nat) (a1 : Nat) (a2 : Nat) (I : zI) : Option (zI) :=
  zb (zit (gX8_become_2 a1 a2) n (0, I)) fun x2 : zI =>
  some x2
set_option maxHeartbeats 4000000 in
set_option maxRecDepth 100000 in
theorem mX8_become {l : Launch} {D : va_G} {T : zT} {ad sK sV : Nat → Nat} (hi : zInj ad) (n : Nat) (a1 : Nat) (a2 : Nat) (ha1 : zRow a1) (ha2 : zRow a2) (I : zI) (L : zL) : ∀ o, fX8_become n a1 a2 I = some o → zMet l yX8_become cX8_become 3 none 0 0 D T ad sK sV [.ref (ad a1), .ref (ad a2)] I L (em_vI L o) := by
  intro o ho
  refine zMet.of hi (by decide +kernel) (Nat.le_of_ble_eq_true rfl) (fun p e s m args below meth c hB => ?_)
  refine zr_top (emb := em_vI L) (t := fX8_become n a1 a2 I) ?_ ho
  unfold fX8_become
  refine zr_iconst (v := 0) hB (by decide) dX8_become_0 ?_
  refine zr_istore_n (lv' := [(2, .int 0), (0, .ref (ad a1)), (1, .ref (ad a2))]) hB rfl (by decide) rfl dX8_become_1 ?_
  refine zr_join (pcJ := 20) (fun x2 : zI => []) (fun _ => []) (fun x2 => x2) (fun x2 => L) (fun x2 => ?_) (fun K8 hx7 => ?_)
  · exact zr_vret hB rfl rfl dX8_become_20
  · refine zr_sub (lv' := (fun s1 : Int32 × zI => [(2, .int s1.1), (0, .ref (ad a1)), (1, .ref (ad a2))]) (0, I)) [0, 1, 2] rfl (zr_loop (fun s1 : Int32 × zI => [(2, .int s1.1), (0, .ref (ad a1)), (1, .ref (ad a2))]) (fun s1 => s1.2) (fun s1 => L) (fun x2 : zI => []) (fun x2 => x2) (fun x2 => L) hx7 (fun s1 K9 hc3 hx4 => ?_) n (0, I))
    unfold gX8_become_2
    refine zr_iload_n hB 0 rfl rfl dX8_become_2 ?_
    refine zr_bipush (v := 120) hB (by decide) dX8_become_3 ?_
    refine zr_icmp_ge (tgt := 20) hB (by decide) dX8_become_5 ?_ ?_
    · exact zr_sub [] rfl (hx4 s1.2)
    · refine zr_aload_n hB 2 rfl rfl dX8_become_8 ?_
      refine zr_iload_n hB 0 rfl rfl dX8_become_9 ?_
      refine zr_aload_n hB 1 rfl rfl dX8_become_10 ?_
      refine zr_iload_n hB 0 rfl rfl dX8_become_11 ?_
      refine zr_iaload hB (zA_row ha1) dX8_become_12 ?_
      refine zr_iastore hB (zA_row ha2) dX8_become_13 ?_
      refine zr_letM (fun J10 => ?_)
      refine zr_iincL hB (j := 0) (n := 1) (w := 1) rfl (by decide) (by decide) dX8_become_14 (fun v11 lv' hlv => ?_)
      obtain rfl : lv' = [(2, .int v11), (0, .ref (ad a1)), (1, .ref (ad a2))] := hlv.symm.trans rfl
      refine zr_goto (tgt := 2) hB (by decide) dX8_become_17 ?_
      exact zr_sub [0, 1, 2] rfl (hc3 (v11, J10))

def fX8_lends (n : Nat) (I : zI) : Option (zI) :=
  zb (fX8_become n 51 53 I) fun o3 =>
  some o3
set_option maxHeartbeats 4000000 in
set_option maxRecDepth 100000 in
theorem mX8_lends {l : Launch} {D : va_G} {T : zT} {ad sK sV : Nat → Nat} (hi : zInj ad) (n : Nat)   (I : zI) (L : zL) : ∀ o, fX8_lends n I = some o → zMet l yX8_lends cX8_lends 1 none 1 22 D T ad sK sV [.ref (ad 50)] I L (em_vI L o) := by
  intro o ho
  refine zMet.of hi (by decide +kernel) (Nat.le_of_ble_eq_true rfl) (fun p e s m args below meth c hB => ?_)
  refine zr_top (emb := em_vI L) (t := fX8_lends n I) ?_ ho
  unfold fX8_lends
  refine zr_aload_n hB 0 rfl rfl dX8_lends_0 ?_
  refine zr_get_X8 (w := 50) (k := 0) (v := .ref (ad 51)) hB rfl (by decide) rfl lf_X8_9 rfl dX8_lends_1 ?_
  refine zr_aload_n hB 0 rfl rfl dX8_lends_4 ?_
  refine zr_get_X8 (w := 50) (k := 2) (v := .ref (ad 53)) hB rfl (by decide) rfl lf_X8_16 rfl dX8_lends_5 ?_
  refine zr_callS (st := []) (As := [.ref (ad 51), .ref (ad 53)]) (embc := em_vI L) hB (mX8_become (sK := sK) (sV := sV) hi n 51 53 (Or.inl rfl) (Or.inr (Or.inr rfl)) I L) lm_X8_47 q2_X8_become q4_X8 q5_X8_become qd_X8_become (by decide) rfl rfl (Nat.le_of_ble_eq_true rfl) ⟨Nat.zero_le _, Nat.zero_le _⟩ dX8_lends_8 (zr_kvI (fun o3 => ?_))
  exact zr_vret hB rfl rfl dX8_lends_11

def fX8_laysBack (n : Nat) (I : zI) : Option (zI) :=
  zb (fX8_become n 53 51 I) fun o3 =>
  some o3
set_option maxHeartbeats 4000000 in
set_option maxRecDepth 100000 in
theorem mX8_laysBack {l : Launch} {D : va_G} {T : zT} {ad sK sV : Nat → Nat} (hi : zInj ad) (n : Nat)   (I : zI) (L : zL) : ∀ o, fX8_laysBack n I = some o → zMet l yX8_laysBack cX8_laysBack 1 none 1 22 D T ad sK sV [.ref (ad 50)] I L (em_vI L o) := by
  intro o ho
  refine zMet.of hi (by decide +kernel) (Nat.le_of_ble_eq_true rfl) (fun p e s m args below meth c hB => ?_)
  refine zr_top (emb := em_vI L) (t := fX8_laysBack n I) ?_ ho
  unfold fX8_laysBack
  refine zr_aload_n hB 0 rfl rfl dX8_laysBack_0 ?_
  refine zr_get_X8 (w := 50) (k := 2) (v := .ref (ad 53)) hB rfl (by decide) rfl lf_X8_16 rfl dX8_laysBack_1 ?_
  refine zr_aload_n hB 0 rfl rfl dX8_laysBack_4 ?_
  refine zr_get_X8 (w := 50) (k := 0) (v := .ref (ad 51)) hB rfl (by decide) rfl lf_X8_9 rfl dX8_laysBack_5 ?_
  refine zr_callS (st := []) (As := [.ref (ad 53), .ref (ad 51)]) (embc := em_vI L) hB (mX8_become (sK := sK) (sV := sV) hi n 53 51 (Or.inr (Or.inr rfl)) (Or.inl rfl) I L) lm_X8_47 q2_X8_become q4_X8 q5_X8_become qd_X8_become (by decide) rfl rfl (Nat.le_of_ble_eq_true rfl) ⟨Nat.zero_le _, Nat.zero_le _⟩ dX8_laysBack_8 (zr_kvI (fun o3 => ?_))
  exact zr_vret hB rfl rfl dX8_laysBack_11

def fX8_finding (a1 : Int32) (I : zI) : Option (Int32 × zI) :=
  zg a1 7 (
  zg a1 7 (
  zl (zup I 55 (zn a1) ((I 55 (zn a1)) + 1)) fun J1 =>
  some ((-1000001) - a1, J1)))
set_option maxHeartbeats 4000000 in
set_option maxRecDepth 100000 in
theorem mX8_finding {l : Launch} {D : va_G} {T : zT} {ad sK sV : Nat → Nat} (hi : zInj ad) (a1 : Int32)  (I : zI) (L : zL) : ∀ o, fX8_finding a1 I = some o → zMet l yX8_finding cX8_finding 2 (some .int) 0 0 D T ad sK sV [.ref (ad 50), .int a1] I L (em_iI L o) := by
  intro o ho
  refine zMet.of hi (by decide +kernel) (Nat.le_of_ble_eq_true rfl) (fun p e s m args below meth c hB => ?_)
  refine zr_top (emb := em_iI L) (t := fX8_finding a1 I) ?_ ho
  unfold fX8_finding
  refine zr_aload_n hB 0 rfl rfl dX8_finding_0 ?_
  refine zr_get_X8 (w := 50) (k := 6) (v := .ref (ad 55)) hB rfl (by decide) rfl lf_X8_22 rfl dX8_finding_1 ?_
  refine zr_iload_n hB 1 rfl rfl dX8_finding_4 ?_
  refine zr_dup2 hB rfl rfl dX8_finding_5 ?_
  refine zr_iaload hB zA_55 dX8_finding_6 ?_
  refine zr_iconst (v := 1) hB (by decide) dX8_finding_7 ?_
  refine zr_iadd hB dX8_finding_8 ?_
  refine zr_iastore hB zA_55 dX8_finding_9 ?_
  refine zr_letM (fun J1 => ?_)
  refine zr_ldc (v := (-1000001)) hB lk_X8_51 dX8_finding_10 ?_
  refine zr_iload_n hB 1 rfl rfl dX8_finding_12 ?_
  refine zr_isub hB dX8_finding_13 ?_
  exact zr_iret hB rfl rfl dX8_finding_14

def fX8_within (a1 : Int64) (a2 : Int64) (a3 : Int64) : Option (Int32) :=
  if (lg_cmp a1 a2) < 0 then
    some 0
  else
  if 0 < (lg_cmp a1 a3) then
    some 0
  else
  some 1
set_option maxHeartbeats 4000000 in
set_option maxRecDepth 100000 in
theorem mX8_within {l : Launch} {D : va_G} {T : zT} {ad sK sV : Nat → Nat} (hi : zInj ad) (a1 : Int64) (a2 : Int64) (a3 : Int64)  (I : zI) (L : zL) : ∀ o, fX8_within a1 a2 a3 = some o → zMet l yX8_within cX8_within 6 (some .boolean) 0 0 D T ad sK sV [.long a1, .long a2, .long a3] I L (em_i0 I L o) := by
  intro o ho
  refine zMet.of hi (by decide +kernel) (Nat.le_of_ble_eq_true rfl) (fun p e s m args below meth c hB => ?_)
  refine zr_top (emb := em_i0 I L) (t := fX8_within a1 a2 a3) ?_ ho
  unfold fX8_within
  refine zr_lload_n hB 0 rfl rfl dX8_within_0 ?_
  refine zr_lload_n hB 1 rfl rfl dX8_within_1 ?_
  refine zr_lcmp hB dX8_within_2 ?_
  refine zr_iflt (tgt := 17) hB (by decide) dX8_within_3 ?_ ?_
  · refine zr_iconst (v := 0) hB (by decide) dX8_within_17 ?_
    exact zr_zretC (by decide) hB rfl rfl dX8_within_18
  · refine zr_lload_n hB 0 rfl rfl dX8_within_6 ?_
    refine zr_lload hB 2 rfl dX8_within_7 ?_
    refine zr_lcmp hB dX8_within_9 ?_
    refine zr_ifgt (tgt := 17) hB (by decide) dX8_within_10 ?_ ?_
    · refine zr_iconst (v := 0) hB (by decide) dX8_within_17 ?_
      exact zr_zretC (by decide) hB rfl rfl dX8_within_18
    · refine zr_iconst (v := 1) hB (by decide) dX8_within_13 ?_
      refine zr_goto (tgt := 18) hB (by decide) dX8_within_14 ?_
      exact zr_zretC (by decide) hB rfl rfl dX8_within_18

def fX8_isRoom (a1 : Int32) : Option (Int32) :=
  zb (fX8_within a1.toInt64 0 7) fun o2 =>
  zgb o2 (
  some o2)
set_option maxHeartbeats 4000000 in
set_option maxRecDepth 100000 in
theorem mX8_isRoom {l : Launch} {D : va_G} {T : zT} {ad sK sV : Nat → Nat} (hi : zInj ad) (a1 : Int32)  (I : zI) (L : zL) : ∀ o, fX8_isRoom a1 = some o → zMet l yX8_isRoom cX8_isRoom 1 (some .boolean) 1 25 D T ad sK sV [.int a1] I L (em_i0 I L o) := by
  intro o ho
  refine zMet.of hi (by decide +kernel) (Nat.le_of_ble_eq_true rfl) (fun p e s m args below meth c hB => ?_)
  refine zr_top (emb := em_i0 I L) (t := fX8_isRoom a1) ?_ ho
  unfold fX8_isRoom
  refine zr_iload_n hB 0 rfl rfl dX8_isRoom_0 ?_
  refine zr_i2l hB dX8_isRoom_1 ?_
  refine zr_lconst (v := 0) hB (by decide) dX8_isRoom_2 ?_
  refine zr_ldc2 (v := 7) hB lj_X8_52 dX8_isRoom_3 ?_
  refine zr_callS (st := []) (As := [.long a1.toInt64, .long 0, .long 7]) (embc := em_i0 I L) hB (mX8_within (sK := sK) (sV := sV) hi a1.toInt64 0 7 I L) lm_X8_54 q2_X8_within q4_X8 q5_X8_within qd_X8_within (by decide) rfl rfl (Nat.le_of_ble_eq_true rfl) ⟨Nat.zero_le _, Nat.zero_le _⟩ dX8_isRoom_6 (zr_ki0 (fun o2 => ?_))
  refine zr_gb (fun hv => ?_)
  exact zr_zretC hv hB rfl rfl dX8_isRoom_9

def fX8_isThing (a1 : Int32) (I : zI) : Option (Int32) :=
  zg 11 120 (
  zb (fX8_within a1.toInt64 0 (((I 51 (zn 11)) - 1).toInt64)) fun o2 =>
  zgb o2 (
  some o2))
set_option maxHeartbeats 4000000 in
set_option maxRecDepth 100000 in
theorem mX8_isThing {l : Launch} {D : va_G} {T : zT} {ad sK sV : Nat → Nat} (hi : zInj ad) (a1 : Int32)  (I : zI) (L : zL) : ∀ o, fX8_isThing a1 I = some o → zMet l yX8_isThing cX8_isThing 2 (some .boolean) 1 25 D T ad sK sV [.ref (ad 50), .int a1] I L (em_i0 I L o) := by
  intro o ho
  refine zMet.of hi (by decide +kernel) (Nat.le_of_ble_eq_true rfl) (fun p e s m args below meth c hB => ?_)
  refine zr_top (emb := em_i0 I L) (t := fX8_isThing a1 I) ?_ ho
  unfold fX8_isThing
  refine zr_iload_n hB 1 rfl rfl dX8_isThing_0 ?_
  refine zr_i2l hB dX8_isThing_1 ?_
  refine zr_lconst (v := 0) hB (by decide) dX8_isThing_2 ?_
  refine zr_aload_n hB 0 rfl rfl dX8_isThing_3 ?_
  refine zr_get_X8 (w := 50) (k := 0) (v := .ref (ad 51)) hB rfl (by decide) rfl lf_X8_9 rfl dX8_isThing_4 ?_
  refine zr_bipush (v := 11) hB (by decide) dX8_isThing_7 ?_
  refine zr_iaload hB zA_51 dX8_isThing_9 ?_
  refine zr_iconst (v := 1) hB (by decide) dX8_isThing_10 ?_
  refine zr_isub hB dX8_isThing_11 ?_
  refine zr_i2l hB dX8_isThing_12 ?_
  refine zr_callS (st := []) (As := [.long a1.toInt64, .long 0, .long (((I 51 (zn 11)) - 1).toInt64)]) (embc := em_i0 I L) hB (mX8_within (sK := sK) (sV := sV) hi a1.toInt64 0 (((I 51 (zn 11)) - 1).toInt64) I L) lm_X8_54 q2_X8_within q4_X8 q5_X8_within qd_X8_within (by decide) rfl rfl (Nat.le_of_ble_eq_true rfl) ⟨Nat.zero_le _, Nat.zero_le _⟩ dX8_isThing_13 (zr_ki0 (fun o2 => ?_))
  refine zr_gb (fun hv => ?_)
  exact zr_zretC hv hB rfl rfl dX8_isThing_16

def fX8_isOne (a1 : Int32) (I : zI) : Option (Int32) :=
  zg 12 120 (
  zb (fX8_within a1.toInt64 0 (((I 51 (zn 12)) - 1).toInt64)) fun o2 =>
  zgb o2 (
  some o2))
set_option maxHeartbeats 4000000 in
set_option maxRecDepth 100000 in
theorem mX8_isOne {l : Launch} {D : va_G} {T : zT} {ad sK sV : Nat → Nat} (hi : zInj ad) (a1 : Int32)  (I : zI) (L : zL) : ∀ o, fX8_isOne a1 I = some o → zMet l yX8_isOne cX8_isOne 2 (some .boolean) 1 25 D T ad sK sV [.ref (ad 50), .int a1] I L (em_i0 I L o) := by
  intro o ho
  refine zMet.of hi (by decide +kernel) (Nat.le_of_ble_eq_true rfl) (fun p e s m args below meth c hB => ?_)
  refine zr_top (emb := em_i0 I L) (t := fX8_isOne a1 I) ?_ ho
  unfold fX8_isOne
  refine zr_iload_n hB 1 rfl rfl dX8_isOne_0 ?_
  refine zr_i2l hB dX8_isOne_1 ?_
  refine zr_lconst (v := 0) hB (by decide) dX8_isOne_2 ?_
  refine zr_aload_n hB 0 rfl rfl dX8_isOne_3 ?_
  refine zr_get_X8 (w := 50) (k := 0) (v := .ref (ad 51)) hB rfl (by decide) rfl lf_X8_9 rfl dX8_isOne_4 ?_
  refine zr_bipush (v := 12) hB (by decide) dX8_isOne_7 ?_
  refine zr_iaload hB zA_51 dX8_isOne_9 ?_
  refine zr_iconst (v := 1) hB (by decide) dX8_isOne_10 ?_
  refine zr_isub hB dX8_isOne_11 ?_
  refine zr_i2l hB dX8_isOne_12 ?_
  refine zr_callS (st := []) (As := [.long a1.toInt64, .long 0, .long (((I 51 (zn 12)) - 1).toInt64)]) (embc := em_i0 I L) hB (mX8_within (sK := sK) (sV := sV) hi a1.toInt64 0 (((I 51 (zn 12)) - 1).toInt64) I L) lm_X8_54 q2_X8_within q4_X8 q5_X8_within qd_X8_within (by decide) rfl rfl (Nat.le_of_ble_eq_true rfl) ⟨Nat.zero_le _, Nat.zero_le _⟩ dX8_isOne_13 (zr_ki0 (fun o2 => ?_))
  refine zr_gb (fun hv => ?_)
  exact zr_zretC hv hB rfl rfl dX8_isOne_16

def fX8_isKind (a1 : Int32) : Option (Int32) :=
  zb (fX8_within a1.toInt64 0 6) fun o2 =>
  zgb o2 (
  some o2)
set_option maxHeartbeats 4000000 in
set_option maxRecDepth 100000 in
theorem mX8_isKind {l : Launch} {D : va_G} {T : zT} {ad sK sV : Nat → Nat} (hi : zInj ad) (a1 : Int32)  (I : zI) (L : zL) : ∀ o, fX8_isKind a1 = some o → zMet l yX8_isKind cX8_isKind 1 (some .boolean) 1 25 D T ad sK sV [.int a1] I L (em_i0 I L o) := by
  intro o ho
  refine zMet.of hi (by decide +kernel) (Nat.le_of_ble_eq_true rfl) (fun p e s m args below meth c hB => ?_)
  refine zr_top (emb := em_i0 I L) (t := fX8_isKind a1) ?_ ho
  unfold fX8_isKind
  refine zr_iload_n hB 0 rfl rfl dX8_isKind_0 ?_
  refine zr_i2l hB dX8_isKind_1 ?_
  refine zr_lconst (v := 0) hB (by decide) dX8_isKind_2 ?_
  refine zr_ldc2 (v := 6) hB lj_X8_58 dX8_isKind_3 ?_
  refine zr_callS (st := []) (As := [.long a1.toInt64, .long 0, .long 6]) (embc := em_i0 I L) hB (mX8_within (sK := sK) (sV := sV) hi a1.toInt64 0 6 I L) lm_X8_54 q2_X8_within q4_X8 q5_X8_within qd_X8_within (by decide) rfl rfl (Nat.le_of_ble_eq_true rfl) ⟨Nat.zero_le _, Nat.zero_le _⟩ dX8_isKind_6 (zr_ki0 (fun o2 => ?_))
  refine zr_gb (fun hv => ?_)
  exact zr_zretC hv hB rfl rfl dX8_isKind_9

def fX8_isPlace (a1 : Int32) : Option (Int32) :=
  zb (fX8_within a1.toInt64 0 39) fun o2 =>
  zgb o2 (
  some o2)
set_option maxHeartbeats 4000000 in
set_option maxRecDepth 100000 in
theorem mX8_isPlace {l : Launch} {D : va_G} {T : zT} {ad sK sV : Nat → Nat} (hi : zInj ad) (a1 : Int32)  (I : zI) (L : zL) : ∀ o, fX8_isPlace a1 = some o → zMet l yX8_isPlace cX8_isPlace 1 (some .boolean) 1 25 D T ad sK sV [.int a1] I L (em_i0 I L o) := by
  intro o ho
  refine zMet.of hi (by decide +kernel) (Nat.le_of_ble_eq_true rfl) (fun p e s m args below meth c hB => ?_)
  refine zr_top (emb := em_i0 I L) (t := fX8_isPlace a1) ?_ ho
  unfold fX8_isPlace
  refine zr_iload_n hB 0 rfl rfl dX8_isPlace_0 ?_
  refine zr_i2l hB dX8_isPlace_1 ?_
  refine zr_lconst (v := 0) hB (by decide) dX8_isPlace_2 ?_
  refine zr_ldc2 (v := 39) hB lj_X8_60 dX8_isPlace_3 ?_
  refine zr_callS (st := []) (As := [.long a1.toInt64, .long 0, .long 39]) (embc := em_i0 I L) hB (mX8_within (sK := sK) (sV := sV) hi a1.toInt64 0 39 I L) lm_X8_54 q2_X8_within q4_X8 q5_X8_within qd_X8_within (by decide) rfl rfl (Nat.le_of_ble_eq_true rfl) ⟨Nat.zero_le _, Nat.zero_le _⟩ dX8_isPlace_6 (zr_ki0 (fun o2 => ?_))
  refine zr_gb (fun hv => ?_)
  exact zr_zretC hv hB rfl rfl dX8_isPlace_9

def fX8_isOpen (a1 : Int32) (a2 : Int32) (I : zI) : Option (Int32) :=
  zg (0 + a1) 120 (
  if ((zshr (I 51 (zn (0 + a1))) a2) &&& 1) = 1 then
    some 1
  else
  some 0)
set_option maxHeartbeats 4000000 in
set_option maxRecDepth 100000 in
theorem mX8_isOpen {l : Launch} {D : va_G} {T : zT} {ad sK sV : Nat → Nat} (hi : zInj ad) (a1 : Int32) (a2 : Int32)  (I : zI) (L : zL) : ∀ o, fX8_isOpen a1 a2 I = some o → zMet l yX8_isOpen cX8_isOpen 3 (some .boolean) 0 0 D T ad sK sV [.ref (ad 50), .int a1, .int a2] I L (em_i0 I L o) := by
  intro o ho
  refine zMet.of hi (by decide +kernel) (Nat.le_of_ble_eq_true rfl) (fun p e s m args below meth c hB => ?_)
  refine zr_top (emb := em_i0 I L) (t := fX8_isOpen a1 a2 I) ?_ ho
  unfold fX8_isOpen
  refine zr_aload_n hB 0 rfl rfl dX8_isOpen_0 ?_
  refine zr_get_X8 (w := 50) (k := 0) (v := .ref (ad 51)) hB rfl (by decide) rfl lf_X8_9 rfl dX8_isOpen_1 ?_
  refine zr_iconst (v := 0) hB (by decide) dX8_isOpen_4 ?_
  refine zr_iload_n hB 1 rfl rfl dX8_isOpen_5 ?_
  refine zr_iadd hB dX8_isOpen_6 ?_
  refine zr_iaload hB zA_51 dX8_isOpen_7 ?_
  refine zr_iload_n hB 2 rfl rfl dX8_isOpen_8 ?_
  refine zr_ishr hB dX8_isOpen_9 ?_
  refine zr_iconst (v := 1) hB (by decide) dX8_isOpen_10 ?_
  refine zr_iand hB dX8_isOpen_11 ?_
  refine zr_iconst (v := 1) hB (by decide) dX8_isOpen_12 ?_
  refine zr_icmp_ne (tgt := 20) hB (by decide) dX8_isOpen_13 ?_ ?_
  · refine zr_iconst (v := 0) hB (by decide) dX8_isOpen_20 ?_
    exact zr_zretC (by decide) hB rfl rfl dX8_isOpen_21
  · refine zr_iconst (v := 1) hB (by decide) dX8_isOpen_16 ?_
    refine zr_goto (tgt := 21) hB (by decide) dX8_isOpen_17 ?_
    exact zr_zretC (by decide) hB rfl rfl dX8_isOpen_21

def fX8_above (a1 : Int32) : Option (Int32) :=
  if a1 = 0 then
    some (-1)
  else
  if a1 = 2 then
    some 1
  else
  if a1 = 3 then
    some 2
  else
  if a1 = 5 then
    some 4
  else
  some 0
set_option maxHeartbeats 4000000 in
set_option maxRecDepth 100000 in
theorem mX8_above {l : Launch} {D : va_G} {T : zT} {ad sK sV : Nat → Nat} (hi : zInj ad) (a1 : Int32)  (I : zI) (L : zL) : ∀ o, fX8_above a1 = some o → zMet l yX8_above cX8_above 1 (some .int) 0 0 D T ad sK sV [.int a1] I L (em_i0 I L o) := by
  intro o ho
  refine zMet.of hi (by decide +kernel) (Nat.le_of_ble_eq_true rfl) (fun p e s m args below meth c hB => ?_)
  refine zr_top (emb := em_i0 I L) (t := fX8_above a1) ?_ ho
  unfold fX8_above
  refine zr_iload_n hB 0 rfl rfl dX8_above_0 ?_
  refine zr_ifne (tgt := 8) hB (by decide) dX8_above_1 ?_ ?_
  · refine zr_iload_n hB 0 rfl rfl dX8_above_8 ?_
    refine zr_iconst (v := 2) hB (by decide) dX8_above_9 ?_
    refine zr_icmp_ne (tgt := 17) hB (by decide) dX8_above_10 ?_ ?_
    · refine zr_iload_n hB 0 rfl rfl dX8_above_17 ?_
      refine zr_iconst (v := 3) hB (by decide) dX8_above_18 ?_
      refine zr_icmp_ne (tgt := 26) hB (by decide) dX8_above_19 ?_ ?_
      · refine zr_iload_n hB 0 rfl rfl dX8_above_26 ?_
        refine zr_iconst (v := 5) hB (by decide) dX8_above_27 ?_
        refine zr_icmp_ne (tgt := 35) hB (by decide) dX8_above_28 ?_ ?_
        · refine zr_iconst (v := 0) hB (by decide) dX8_above_35 ?_
          exact zr_iret hB rfl rfl dX8_above_36
        · refine zr_iconst (v := 4) hB (by decide) dX8_above_31 ?_
          refine zr_goto (tgt := 36) hB (by decide) dX8_above_32 ?_
          exact zr_iret hB rfl rfl dX8_above_36
      · refine zr_iconst (v := 2) hB (by decide) dX8_above_22 ?_
        refine zr_goto (tgt := 36) hB (by decide) dX8_above_23 ?_
        exact zr_iret hB rfl rfl dX8_above_36
    · refine zr_iconst (v := 1) hB (by decide) dX8_above_13 ?_
      refine zr_goto (tgt := 36) hB (by decide) dX8_above_14 ?_
      exact zr_iret hB rfl rfl dX8_above_36
  · refine zr_iconst (v := (-1)) hB (by decide) dX8_above_4 ?_
    refine zr_goto (tgt := 36) hB (by decide) dX8_above_5 ?_
    exact zr_iret hB rfl rfl dX8_above_36

def gX8_isUnder_2 (a2 : Int32) (s1 : Int32) : Option ((Int32) ⊕ (Int32)) :=
  if s1 < 0 then
    some (.inr s1)
  else
  if s1 = a2 then
    some (.inr s1)
  else
  zb (fX8_above s1) fun o11 =>
  some (.inl o11)
def fX8_isUnder (n : Nat) (a1 : Int32) (a2 : Int32) : Option (Int32) :=
  zb (zit (gX8_isUnder_2 a2) n a1) fun x2 : Int32 =>
  if x2 < 0 then
    some 0
  else
  some 1
set_option maxHeartbeats 4000000 in
set_option maxRecDepth 100000 in
theorem mX8_isUnder {l : Launch} {D : va_G} {T : zT} {ad sK sV : Nat → Nat} (hi : zInj ad) (n : Nat) (a1 : Int32) (a2 : Int32)  (I : zI) (L : zL) : ∀ o, fX8_isUnder n a1 a2 = some o → zMet l yX8_isUnder cX8_isUnder 3 (some .boolean) 1 20 D T ad sK sV [.int a1, .int a2] I L (em_i0 I L o) := by
  intro o ho
  refine zMet.of hi (by decide +kernel) (Nat.le_of_ble_eq_true rfl) (fun p e s m args below meth c hB => ?_)
  refine zr_top (emb := em_i0 I L) (t := fX8_isUnder n a1 a2) ?_ ho
  unfold fX8_isUnder
  refine zr_iload_n hB 0 rfl rfl dX8_isUnder_0 ?_
  refine zr_istore_n (lv' := [(2, .int a1), (0, .int a1), (1, .int a2)]) hB rfl (by decide) rfl dX8_isUnder_1 ?_
  refine zr_join (pcJ := 19) (fun x2 : Int32 => [(2, .int x2)]) (fun _ => []) (fun x2 => I) (fun x2 => L) (fun x2 => ?_) (fun K8 hx7 => ?_)
  · refine zr_iload_n hB 0 rfl rfl dX8_isUnder_19 ?_
    refine zr_iflt (tgt := 27) hB (by decide) dX8_isUnder_20 ?_ ?_
    · refine zr_iconst (v := 0) hB (by decide) dX8_isUnder_27 ?_
      exact zr_zretC (by decide) hB rfl rfl dX8_isUnder_28
    · refine zr_iconst (v := 1) hB (by decide) dX8_isUnder_23 ?_
      refine zr_goto (tgt := 28) hB (by decide) dX8_isUnder_24 ?_
      exact zr_zretC (by decide) hB rfl rfl dX8_isUnder_28
  · refine zr_sub (lv' := (fun s1 : Int32 => [(2, .int s1), (1, .int a2)]) a1) [0, 2] rfl (zr_loop (fun s1 : Int32 => [(2, .int s1), (1, .int a2)]) (fun s1 => I) (fun s1 => L) (fun x2 : Int32 => [(2, .int x2)]) (fun x2 => I) (fun x2 => L) hx7 (fun s1 K9 hc3 hx4 => ?_) n a1)
    unfold gX8_isUnder_2
    refine zr_iload_n hB 0 rfl rfl dX8_isUnder_2 ?_
    refine zr_iflt (tgt := 19) hB (by decide) dX8_isUnder_3 ?_ ?_
    · exact zr_sub [0] rfl (hx4 s1)
    · refine zr_iload_n hB 0 rfl rfl dX8_isUnder_6 ?_
      refine zr_iload_n hB 1 rfl rfl dX8_isUnder_7 ?_
      refine zr_icmp_eq (tgt := 19) hB (by decide) dX8_isUnder_8 ?_ ?_
      · exact zr_sub [0] rfl (hx4 s1)
      · refine zr_iload_n hB 0 rfl rfl dX8_isUnder_11 ?_
        refine zr_callS (st := []) (As := [.int s1]) (embc := em_i0 I L) hB (mX8_above (sK := sK) (sV := sV) hi s1 I L) lm_X8_62 q2_X8_above q4_X8 q5_X8_above qd_X8_above (by decide) rfl rfl (Nat.le_of_ble_eq_true rfl) ⟨Nat.zero_le _, Nat.zero_le _⟩ dX8_isUnder_12 (zr_ki0 (fun o11 => ?_))
        refine zr_istore_n (lv' := [(2, .int o11), (1, .int a2)]) hB rfl (by decide) rfl dX8_isUnder_15 ?_
        refine zr_goto (tgt := 2) hB (by decide) dX8_isUnder_16 ?_
        exact zr_sub [0, 1] rfl (hc3 o11)

def fX8_heft (a1 : Int32) (a2 : Int32) (a3 : Int32) : Option (Int32) :=
  zl (zshr a2 a3) fun v1 =>
  if a1 = 1 then
    some (v1 + 1)
  else
  if a1 = 2 then
    some ((2 * v1) + 2)
  else
  if a1 = 3 then
    some ((2 * v1) + 7)
  else
  if a1 = 4 then
    some 1
  else
  if a1 = 5 then
    some 0
  else
  if a1 = 6 then
    some a2
  else
  some v1
set_option maxHeartbeats 4000000 in
set_option maxRecDepth 100000 in
theorem mX8_heft {l : Launch} {D : va_G} {T : zT} {ad sK sV : Nat → Nat} (hi : zInj ad) (a1 : Int32) (a2 : Int32) (a3 : Int32)  (I : zI) (L : zL) : ∀ o, fX8_heft a1 a2 a3 = some o → zMet l yX8_heft cX8_heft 4 (some .int) 0 0 D T ad sK sV [.int a1, .int a2, .int a3] I L (em_i0 I L o) := by
  intro o ho
  refine zMet.of hi (by decide +kernel) (Nat.le_of_ble_eq_true rfl) (fun p e s m args below meth c hB => ?_)
  refine zr_top (emb := em_i0 I L) (t := fX8_heft a1 a2 a3) ?_ ho
  unfold fX8_heft
  refine zr_iload_n hB 1 rfl rfl dX8_heft_0 ?_
  refine zr_iload_n hB 2 rfl rfl dX8_heft_1 ?_
  refine zr_ishr hB dX8_heft_2 ?_
  refine zr_letI (fun v1 => ?_)
  refine zr_istore_n (lv' := [(3, .int v1), (0, .int a1), (1, .int a2), (2, .int a3)]) hB rfl (by decide) rfl dX8_heft_3 ?_
  refine zr_iload_n hB 1 rfl rfl dX8_heft_4 ?_
  refine zr_case (fun q5_0 => ?_) (fun q5_0 => ?_)
  · refine zr_tsIn (tgt := 44) (v := 1) hB q5_0 dX8_heft_5 (by decide) (by decide) rfl (by decide) ?_
    refine zr_iload_n hB 0 rfl rfl dX8_heft_44 ?_
    refine zr_iconst (v := 1) hB (by decide) dX8_heft_45 ?_
    refine zr_iadd hB dX8_heft_46 ?_
    exact zr_iret hB rfl rfl dX8_heft_47
  · refine zr_case (fun q5_1 => ?_) (fun q5_1 => ?_)
    · refine zr_tsIn (tgt := 48) (v := 2) hB q5_1 dX8_heft_5 (by decide) (by decide) rfl (by decide) ?_
      refine zr_iconst (v := 2) hB (by decide) dX8_heft_48 ?_
      refine zr_iload_n hB 0 rfl rfl dX8_heft_49 ?_
      refine zr_imul hB dX8_heft_50 ?_
      refine zr_iconst (v := 2) hB (by decide) dX8_heft_51 ?_
      refine zr_iadd hB dX8_heft_52 ?_
      exact zr_iret hB rfl rfl dX8_heft_53
    · refine zr_case (fun q5_2 => ?_) (fun q5_2 => ?_)
      · refine zr_tsIn (tgt := 54) (v := 3) hB q5_2 dX8_heft_5 (by decide) (by decide) rfl (by decide) ?_
        refine zr_iconst (v := 2) hB (by decide) dX8_heft_54 ?_
        refine zr_iload_n hB 0 rfl rfl dX8_heft_55 ?_
        refine zr_imul hB dX8_heft_56 ?_
        refine zr_bipush (v := 7) hB (by decide) dX8_heft_57 ?_
        refine zr_iadd hB dX8_heft_59 ?_
        exact zr_iret hB rfl rfl dX8_heft_60
      · refine zr_case (fun q5_3 => ?_) (fun q5_3 => ?_)
        · refine zr_tsIn (tgt := 61) (v := 4) hB q5_3 dX8_heft_5 (by decide) (by decide) rfl (by decide) ?_
          refine zr_iconst (v := 1) hB (by decide) dX8_heft_61 ?_
          exact zr_iret hB rfl rfl dX8_heft_62
        · refine zr_case (fun q5_4 => ?_) (fun q5_4 => ?_)
          · refine zr_tsIn (tgt := 63) (v := 5) hB q5_4 dX8_heft_5 (by decide) (by decide) rfl (by decide) ?_
            refine zr_iconst (v := 0) hB (by decide) dX8_heft_63 ?_
            exact zr_iret hB rfl rfl dX8_heft_64
          · refine zr_case (fun q5_5 => ?_) (fun q5_5 => ?_)
            · refine zr_tsIn (tgt := 65) (v := 6) hB q5_5 dX8_heft_5 (by decide) (by decide) rfl (by decide) ?_
              refine zr_iload_n hB 2 rfl rfl dX8_heft_65 ?_
              exact zr_iret hB rfl rfl dX8_heft_66
            · refine zr_tsOut (tgt := 67) hB dX8_heft_5 (by have h0 := lv_neT q5_0 (show (1 : Int32).toInt = 1 from rfl); have h1 := lv_neT q5_1 (show (2 : Int32).toInt = 2 from rfl); have h2 := lv_neT q5_2 (show (3 : Int32).toInt = 3 from rfl); have h3 := lv_neT q5_3 (show (4 : Int32).toInt = 4 from rfl); have h4 := lv_neT q5_4 (show (5 : Int32).toInt = 5 from rfl); have h5 := lv_neT q5_5 (show (6 : Int32).toInt = 6 from rfl); omega) (by decide) ?_
              refine zr_iload_n hB 0 rfl rfl dX8_heft_67 ?_
              exact zr_iret hB rfl rfl dX8_heft_68

def fX8_weighs (a1 : Int32) (a2 : Int32) (I : zI) : Option (Int32) :=
  zg (28 + a1) 120 (
  zg (44 + a1) 120 (
  zb (fX8_heft (I 51 (zn (28 + a1))) (I 51 (zn (44 + a1))) a2) fun o2 =>
  some o2))
set_option maxHeartbeats 4000000 in
set_option maxRecDepth 100000 in
theorem mX8_weighs {l : Launch} {D : va_G} {T : zT} {ad sK sV : Nat → Nat} (hi : zInj ad) (a1 : Int32) (a2 : Int32)  (I : zI) (L : zL) : ∀ o, fX8_weighs a1 a2 I = some o → zMet l yX8_weighs cX8_weighs 3 (some .int) 1 23 D T ad sK sV [.ref (ad 50), .int a1, .int a2] I L (em_i0 I L o) := by
  intro o ho
  refine zMet.of hi (by decide +kernel) (Nat.le_of_ble_eq_true rfl) (fun p e s m args below meth c hB => ?_)
  refine zr_top (emb := em_i0 I L) (t := fX8_weighs a1 a2 I) ?_ ho
  unfold fX8_weighs
  refine zr_aload_n hB 0 rfl rfl dX8_weighs_0 ?_
  refine zr_get_X8 (w := 50) (k := 0) (v := .ref (ad 51)) hB rfl (by decide) rfl lf_X8_9 rfl dX8_weighs_1 ?_
  refine zr_bipush (v := 28) hB (by decide) dX8_weighs_4 ?_
  refine zr_iload_n hB 1 rfl rfl dX8_weighs_6 ?_
  refine zr_iadd hB dX8_weighs_7 ?_
  refine zr_iaload hB zA_51 dX8_weighs_8 ?_
  refine zr_aload_n hB 0 rfl rfl dX8_weighs_9 ?_
  refine zr_get_X8 (w := 50) (k := 0) (v := .ref (ad 51)) hB rfl (by decide) rfl lf_X8_9 rfl dX8_weighs_10 ?_
  refine zr_bipush (v := 44) hB (by decide) dX8_weighs_13 ?_
  refine zr_iload_n hB 1 rfl rfl dX8_weighs_15 ?_
  refine zr_iadd hB dX8_weighs_16 ?_
  refine zr_iaload hB zA_51 dX8_weighs_17 ?_
  refine zr_iload_n hB 2 rfl rfl dX8_weighs_18 ?_
  refine zr_callS (st := []) (As := [.int (I 51 (zn (28 + a1))), .int (I 51 (zn (44 + a1))), .int a2]) (embc := em_i0 I L) hB (mX8_heft (sK := sK) (sV := sV) hi (I 51 (zn (28 + a1))) (I 51 (zn (44 + a1))) a2 I L) lm_X8_66 q2_X8_heft q4_X8 q5_X8_heft qd_X8_heft (by decide) rfl rfl (Nat.le_of_ble_eq_true rfl) ⟨Nat.zero_le _, Nat.zero_le _⟩ dX8_weighs_19 (zr_ki0 (fun o2 => ?_))
  exact zr_iret hB rfl rfl dX8_weighs_22

def fX8_roomOf (a1 : Int32) (I : zI) : Option (Int32) :=
  zg (52 + a1) 120 (
  some (zrem (I 51 (zn (52 + a1))) 8))
set_option maxHeartbeats 4000000 in
set_option maxRecDepth 100000 in
theorem mX8_roomOf {l : Launch} {D : va_G} {T : zT} {ad sK sV : Nat → Nat} (hi : zInj ad) (a1 : Int32)  (I : zI) (L : zL) : ∀ o, fX8_roomOf a1 I = some o → zMet l yX8_roomOf cX8_roomOf 2 (some .int) 0 0 D T ad sK sV [.ref (ad 50), .int a1] I L (em_i0 I L o) := by
  intro o ho
  refine zMet.of hi (by decide +kernel) (Nat.le_of_ble_eq_true rfl) (fun p e s m args below meth c hB => ?_)
  refine zr_top (emb := em_i0 I L) (t := fX8_roomOf a1 I) ?_ ho
  unfold fX8_roomOf
  refine zr_aload_n hB 0 rfl rfl dX8_roomOf_0 ?_
  refine zr_get_X8 (w := 50) (k := 0) (v := .ref (ad 51)) hB rfl (by decide) rfl lf_X8_9 rfl dX8_roomOf_1 ?_
  refine zr_bipush (v := 52) hB (by decide) dX8_roomOf_4 ?_
  refine zr_iload_n hB 1 rfl rfl dX8_roomOf_6 ?_
  refine zr_iadd hB dX8_roomOf_7 ?_
  refine zr_iaload hB zA_51 dX8_roomOf_8 ?_
  refine zr_bipush (v := 8) hB (by decide) dX8_roomOf_9 ?_
  refine zr_iremC hB (by decide) dX8_roomOf_11 ?_
  exact zr_iret hB rfl rfl dX8_roomOf_12

def fX8_levelOf (a1 : Int32) (I : zI) : Option (Int32) :=
  zg (52 + a1) 120 (
  some ((I 51 (zn (52 + a1))) / 8))
set_option maxHeartbeats 4000000 in
set_option maxRecDepth 100000 in
theorem mX8_levelOf {l : Launch} {D : va_G} {T : zT} {ad sK sV : Nat → Nat} (hi : zInj ad) (a1 : Int32)  (I : zI) (L : zL) : ∀ o, fX8_levelOf a1 I = some o → zMet l yX8_levelOf cX8_levelOf 2 (some .int) 0 0 D T ad sK sV [.ref (ad 50), .int a1] I L (em_i0 I L o) := by
  intro o ho
  refine zMet.of hi (by decide +kernel) (Nat.le_of_ble_eq_true rfl) (fun p e s m args below meth c hB => ?_)
  refine zr_top (emb := em_i0 I L) (t := fX8_levelOf a1 I) ?_ ho
  unfold fX8_levelOf
  refine zr_aload_n hB 0 rfl rfl dX8_levelOf_0 ?_
  refine zr_get_X8 (w := 50) (k := 0) (v := .ref (ad 51)) hB rfl (by decide) rfl lf_X8_9 rfl dX8_levelOf_1 ?_
  refine zr_bipush (v := 52) hB (by decide) dX8_levelOf_4 ?_
  refine zr_iload_n hB 1 rfl rfl dX8_levelOf_6 ?_
  refine zr_iadd hB dX8_levelOf_7 ?_
  refine zr_iaload hB zA_51 dX8_levelOf_8 ?_
  refine zr_bipush (v := 8) hB (by decide) dX8_levelOf_9 ?_
  refine zr_idivC hB (by decide) dX8_levelOf_11 ?_
  exact zr_iret hB rfl rfl dX8_levelOf_12

def fX8_door (a1 : Int32) (a2 : Int32) (a3 : Int32) (I : zI) : Option (Int32 × zI) :=
  zb (fX8_isRoom a1) fun o2 =>
  if o2 = 0 then
    zb (fX8_finding 0 I) fun o5 =>
    some (o5.1, o5.2)
  else
  zb (fX8_isRoom a2) fun o7 =>
  if o7 = 0 then
    zb (fX8_finding 0 I) fun o10 =>
    some (o10.1, o10.2)
  else
  if a1 = a2 then
    zb (fX8_finding 0 I) fun o13 =>
    some (o13.1, o13.2)
  else
  zb (fX8_within a3.toInt64 0 1) fun o15 =>
  if o15 = 0 then
    zb (fX8_finding 0 I) fun o30 =>
    some (o30.1, o30.2)
  else
  zb (fX8_isOpen a1 a2 I) fun o17 =>
  zb (
    if o17 = 0 then
      some 0
    else
    some 1) fun x18 : Int32 =>
  if a3 = 1 then
    zb (fX8_opensDoor a1 a2 1 I) fun o27 =>
    some (x18, o27)
  else
  zb (fX8_opensDoor a1 a2 0 I) fun o24 =>
  some (x18, o24)
set_option maxHeartbeats 4000000 in
set_option maxRecDepth 100000 in
theorem mX8_door {l : Launch} {D : va_G} {T : zT} {ad sK sV : Nat → Nat} (hi : zInj ad) (a1 : Int32) (a2 : Int32) (a3 : Int32)  (I : zI) (L : zL) : ∀ o, fX8_door a1 a2 a3 I = some o → zMet l yX8_door cX8_door 5 (some .int) 2 45 D T ad sK sV [.ref (ad 50), .int a1, .int a2, .int a3] I L (em_iI L o) := by
  intro o ho
  refine zMet.of hi (by decide +kernel) (Nat.le_of_ble_eq_true rfl) (fun p e s m args below meth c hB => ?_)
  refine zr_top (emb := em_iI L) (t := fX8_door a1 a2 a3 I) ?_ ho
  unfold fX8_door
  refine zr_iload_n hB 1 rfl rfl dX8_door_0 ?_
  refine zr_callS (st := []) (As := [.int a1]) (embc := em_i0 I L) hB (mX8_isRoom (sK := sK) (sV := sV) hi a1 I L) lm_X8_70 q2_X8_isRoom q4_X8 q5_X8_isRoom qd_X8_isRoom (by decide) rfl rfl (Nat.le_of_ble_eq_true rfl) ⟨Nat.zero_le _, Nat.zero_le _⟩ dX8_door_1 (zr_ki0 (fun o2 => ?_))
  refine zr_ifeq (tgt := 29) hB (by decide) dX8_door_4 ?_ ?_
  · refine zr_aload_n hB 0 rfl rfl dX8_door_29 ?_
    refine zr_iconst (v := 0) hB (by decide) dX8_door_30 ?_
    refine zr_callV (st := []) (C := RX8) (As := [.int 0]) (embc := em_iI L) hB (mX8_finding (sK := sK) (sV := sV) hi 0 I L) (zW_X8 rfl) rfl rfl lm_X8_74 q2_X8_finding q3_X8_finding q4_X8 q5_X8_finding qd_X8_finding (by decide) rfl rfl (Nat.le_of_ble_eq_true rfl) ⟨Nat.zero_le _, Nat.zero_le _⟩ dX8_door_31 (zr_kiI (fun o5 => ?_))
    exact zr_iret hB rfl rfl dX8_door_34
  · refine zr_iload_n hB 2 rfl rfl dX8_door_7 ?_
    refine zr_callS (st := []) (As := [.int a2]) (embc := em_i0 I L) hB (mX8_isRoom (sK := sK) (sV := sV) hi a2 I L) lm_X8_70 q2_X8_isRoom q4_X8 q5_X8_isRoom qd_X8_isRoom (by decide) rfl rfl (Nat.le_of_ble_eq_true rfl) ⟨Nat.zero_le _, Nat.zero_le _⟩ dX8_door_8 (zr_ki0 (fun o7 => ?_))
    refine zr_ifeq (tgt := 29) hB (by decide) dX8_door_11 ?_ ?_
    · refine zr_aload_n hB 0 rfl rfl dX8_door_29 ?_
      refine zr_iconst (v := 0) hB (by decide) dX8_door_30 ?_
      refine zr_callV (st := []) (C := RX8) (As := [.int 0]) (embc := em_iI L) hB (mX8_finding (sK := sK) (sV := sV) hi 0 I L) (zW_X8 rfl) rfl rfl lm_X8_74 q2_X8_finding q3_X8_finding q4_X8 q5_X8_finding qd_X8_finding (by decide) rfl rfl (Nat.le_of_ble_eq_true rfl) ⟨Nat.zero_le _, Nat.zero_le _⟩ dX8_door_31 (zr_kiI (fun o10 => ?_))
      exact zr_iret hB rfl rfl dX8_door_34
    · refine zr_iload_n hB 1 rfl rfl dX8_door_14 ?_
      refine zr_iload_n hB 2 rfl rfl dX8_door_15 ?_
      refine zr_icmp_eq (tgt := 29) hB (by decide) dX8_door_16 ?_ ?_
      · refine zr_aload_n hB 0 rfl rfl dX8_door_29 ?_
        refine zr_iconst (v := 0) hB (by decide) dX8_door_30 ?_
        refine zr_callV (st := []) (C := RX8) (As := [.int 0]) (embc := em_iI L) hB (mX8_finding (sK := sK) (sV := sV) hi 0 I L) (zW_X8 rfl) rfl rfl lm_X8_74 q2_X8_finding q3_X8_finding q4_X8 q5_X8_finding qd_X8_finding (by decide) rfl rfl (Nat.le_of_ble_eq_true rfl) ⟨Nat.zero_le _, Nat.zero_le _⟩ dX8_door_31 (zr_kiI (fun o13 => ?_))
        exact zr_iret hB rfl rfl dX8_door_34
      · refine zr_iload_n hB 3 rfl rfl dX8_door_19 ?_
        refine zr_i2l hB dX8_door_20 ?_
        refine zr_lconst (v := 0) hB (by decide) dX8_door_21 ?_
        refine zr_lconst (v := 1) hB (by decide) dX8_door_22 ?_
        refine zr_callS (st := []) (As := [.long a3.toInt64, .long 0, .long 1]) (embc := em_i0 I L) hB (mX8_within (sK := sK) (sV := sV) hi a3.toInt64 0 1 I L) lm_X8_54 q2_X8_within q4_X8 q5_X8_within qd_X8_within (by decide) rfl rfl (Nat.le_of_ble_eq_true rfl) ⟨Nat.zero_le _, Nat.zero_le _⟩ dX8_door_23 (zr_ki0 (fun o15 => ?_))
        refine zr_ifne (tgt := 35) hB (by decide) dX8_door_26 ?_ ?_
        · refine zr_aload_n hB 0 rfl rfl dX8_door_35 ?_
          refine zr_iload_n hB 1 rfl rfl dX8_door_36 ?_
          refine zr_iload_n hB 2 rfl rfl dX8_door_37 ?_
          refine zr_callV (st := []) (C := RX8) (As := [.int a1, .int a2]) (embc := em_i0 I L) hB (mX8_isOpen (sK := sK) (sV := sV) hi a1 a2 I L) (zW_X8 rfl) rfl rfl lm_X8_77 q2_X8_isOpen q3_X8_isOpen q4_X8 q5_X8_isOpen qd_X8_isOpen (by decide) rfl rfl (Nat.le_of_ble_eq_true rfl) ⟨Nat.zero_le _, Nat.zero_le _⟩ dX8_door_38 (zr_ki0 (fun o17 => ?_))
          refine zr_join (pcJ := 49) (fun x18 : Int32 => [(0, .ref (ad 50)), (1, .int a1), (2, .int a2), (3, .int a3)]) (fun x18 => [.int x18]) (fun x18 => I) (fun x18 => L) (fun x18 => ?_) (fun K21 hj19 => ?_)
          · refine zr_istore (lv' := [(4, .int x18), (0, .ref (ad 50)), (1, .int a1), (2, .int a2), (3, .int a3)]) hB (by decide) rfl dX8_door_49 ?_
            refine zr_aload_n hB 1 rfl rfl dX8_door_51 ?_
            refine zr_iload_n hB 2 rfl rfl dX8_door_52 ?_
            refine zr_iload_n hB 3 rfl rfl dX8_door_53 ?_
            refine zr_iload_n hB 4 rfl rfl dX8_door_54 ?_
            refine zr_iconst (v := 1) hB (by decide) dX8_door_55 ?_
            refine zr_icmp_ne (tgt := 63) hB (by decide) dX8_door_56 ?_ ?_
            · refine zr_iconst (v := 0) hB (by decide) dX8_door_63 ?_
              refine zr_callV (st := []) (C := RX8) (As := [.int a1, .int a2, .int 0]) (embc := em_vI L) hB (mX8_opensDoor (sK := sK) (sV := sV) hi a1 a2 0 I L) (zW_X8 rfl) rfl rfl lm_X8_43 q2_X8_opensDoor q3_X8_opensDoor q4_X8 q5_X8_opensDoor qd_X8_opensDoor (by decide) rfl rfl (Nat.le_of_ble_eq_true rfl) ⟨Nat.zero_le _, Nat.zero_le _⟩ dX8_door_64 (zr_kvI (fun o24 => ?_))
              refine zr_iload hB 0 rfl dX8_door_67 ?_
              exact zr_iret hB rfl rfl dX8_door_69
            · refine zr_iconst (v := 1) hB (by decide) dX8_door_59 ?_
              refine zr_goto (tgt := 64) hB (by decide) dX8_door_60 ?_
              refine zr_callV (st := []) (C := RX8) (As := [.int a1, .int a2, .int 1]) (embc := em_vI L) hB (mX8_opensDoor (sK := sK) (sV := sV) hi a1 a2 1 I L) (zW_X8 rfl) rfl rfl lm_X8_43 q2_X8_opensDoor q3_X8_opensDoor q4_X8 q5_X8_opensDoor qd_X8_opensDoor (by decide) rfl rfl (Nat.le_of_ble_eq_true rfl) ⟨Nat.zero_le _, Nat.zero_le _⟩ dX8_door_64 (zr_kvI (fun o27 => ?_))
              refine zr_iload hB 0 rfl dX8_door_67 ?_
              exact zr_iret hB rfl rfl dX8_door_69
          · refine zr_ifeq (tgt := 48) hB (by decide) dX8_door_41 ?_ ?_
            · refine zr_iconst (v := 0) hB (by decide) dX8_door_48 ?_
              exact zr_sub [0, 1, 2, 3] rfl (hj19 0)
            · refine zr_iconst (v := 1) hB (by decide) dX8_door_44 ?_
              refine zr_goto (tgt := 49) hB (by decide) dX8_door_45 ?_
              exact zr_sub [0, 1, 2, 3] rfl (hj19 1)
        · refine zr_aload_n hB 0 rfl rfl dX8_door_29 ?_
          refine zr_iconst (v := 0) hB (by decide) dX8_door_30 ?_
          refine zr_callV (st := []) (C := RX8) (As := [.int 0]) (embc := em_iI L) hB (mX8_finding (sK := sK) (sV := sV) hi 0 I L) (zW_X8 rfl) rfl rfl lm_X8_74 q2_X8_finding q3_X8_finding q4_X8 q5_X8_finding qd_X8_finding (by decide) rfl rfl (Nat.le_of_ble_eq_true rfl) ⟨Nat.zero_le _, Nat.zero_le _⟩ dX8_door_31 (zr_kiI (fun o30 => ?_))
          exact zr_iret hB rfl rfl dX8_door_34

def fX8_rule (a1 : Int32) (a2 : Int32) (I : zI) : Option (Int32 × zI) :=
  zb (
    if a1 = 2 then
      zb (fX8_within a2.toInt64 0 100) fun o10 =>
      some o10
    else
    zb (fX8_within a1.toInt64 0 1) fun o6 =>
    if o6 = 0 then
      some 0
    else
    zb (fX8_isRoom a2) fun o8 =>
    if o8 = 0 then
      some 0
    else
    some 1) fun x1 : Int32 =>
  if x1 = 0 then
    zb (fX8_finding 0 I) fun o15 =>
    some (o15.1, o15.2)
  else
  zg (8 + a1) 120 (
  zl (I 51 (zn (8 + a1))) fun v11 =>
  zg (8 + a1) 120 (
  zl (zup I 51 (zn (8 + a1)) a2) fun J12 =>
  some (v11, J12)))
set_option maxHeartbeats 4000000 in
set_option maxRecDepth 100000 in
theorem mX8_rule {l : Launch} {D : va_G} {T : zT} {ad sK sV : Nat → Nat} (hi : zInj ad) (a1 : Int32) (a2 : Int32)  (I : zI) (L : zL) : ∀ o, fX8_rule a1 a2 I = some o → zMet l yX8_rule cX8_rule 5 (some .int) 2 45 D T ad sK sV [.ref (ad 50), .int a1, .int a2] I L (em_iI L o) := by
  intro o ho
  refine zMet.of hi (by decide +kernel) (Nat.le_of_ble_eq_true rfl) (fun p e s m args below meth c hB => ?_)
  refine zr_top (emb := em_iI L) (t := fX8_rule a1 a2 I) ?_ ho
  unfold fX8_rule
  refine zr_iload_n hB 1 rfl rfl dX8_rule_0 ?_
  refine zr_iconst (v := 2) hB (by decide) dX8_rule_1 ?_
  refine zr_join (pcJ := 39) (fun x1 : Int32 => [(0, .ref (ad 50)), (1, .int a1), (2, .int a2)]) (fun x1 => [.int x1]) (fun x1 => I) (fun x1 => L) (fun x1 => ?_) (fun K4 hj2 => ?_)
  · refine zr_istore_n (lv' := [(3, .int x1), (0, .ref (ad 50)), (1, .int a1), (2, .int a2)]) hB rfl (by decide) rfl dX8_rule_39 ?_
    refine zr_iload_n hB 0 rfl rfl dX8_rule_40 ?_
    refine zr_ifne (tgt := 50) hB (by decide) dX8_rule_41 ?_ ?_
    · refine zr_aload_n hB 1 rfl rfl dX8_rule_50 ?_
      refine zr_get_X8 (w := 50) (k := 0) (v := .ref (ad 51)) hB rfl (by decide) rfl lf_X8_9 rfl dX8_rule_51 ?_
      refine zr_bipush (v := 8) hB (by decide) dX8_rule_54 ?_
      refine zr_iload_n hB 2 rfl rfl dX8_rule_56 ?_
      refine zr_iadd hB dX8_rule_57 ?_
      refine zr_iaload hB zA_51 dX8_rule_58 ?_
      refine zr_letI (fun v11 => ?_)
      refine zr_istore (lv' := [(4, .int v11), (3, .int x1), (0, .ref (ad 50)), (1, .int a1), (2, .int a2)]) hB (by decide) rfl dX8_rule_59 ?_
      refine zr_aload_n hB 2 rfl rfl dX8_rule_61 ?_
      refine zr_get_X8 (w := 50) (k := 0) (v := .ref (ad 51)) hB rfl (by decide) rfl lf_X8_9 rfl dX8_rule_62 ?_
      refine zr_bipush (v := 8) hB (by decide) dX8_rule_65 ?_
      refine zr_iload_n hB 3 rfl rfl dX8_rule_67 ?_
      refine zr_iadd hB dX8_rule_68 ?_
      refine zr_iload_n hB 4 rfl rfl dX8_rule_69 ?_
      refine zr_iastore hB zA_51 dX8_rule_70 ?_
      refine zr_letM (fun J12 => ?_)
      refine zr_iload hB 0 rfl dX8_rule_71 ?_
      exact zr_iret hB rfl rfl dX8_rule_73
    · refine zr_aload_n hB 1 rfl rfl dX8_rule_44 ?_
      refine zr_iconst (v := 0) hB (by decide) dX8_rule_45 ?_
      refine zr_callV (st := []) (C := RX8) (As := [.int 0]) (embc := em_iI L) hB (mX8_finding (sK := sK) (sV := sV) hi 0 I L) (zW_X8 rfl) rfl rfl lm_X8_74 q2_X8_finding q3_X8_finding q4_X8 q5_X8_finding qd_X8_finding (by decide) rfl rfl (Nat.le_of_ble_eq_true rfl) ⟨Nat.zero_le _, Nat.zero_le _⟩ dX8_rule_46 (zr_kiI (fun o15 => ?_))
      exact zr_iret hB rfl rfl dX8_rule_49
  · refine zr_icmp_ne (tgt := 17) hB (by decide) dX8_rule_2 ?_ ?_
    · refine zr_iload_n hB 1 rfl rfl dX8_rule_17 ?_
      refine zr_i2l hB dX8_rule_18 ?_
      refine zr_lconst (v := 0) hB (by decide) dX8_rule_19 ?_
      refine zr_lconst (v := 1) hB (by decide) dX8_rule_20 ?_
      refine zr_callS (st := []) (As := [.long a1.toInt64, .long 0, .long 1]) (embc := em_i0 I L) hB (mX8_within (sK := sK) (sV := sV) hi a1.toInt64 0 1 I L) lm_X8_54 q2_X8_within q4_X8 q5_X8_within qd_X8_within (by decide) rfl rfl (Nat.le_of_ble_eq_true rfl) ⟨Nat.zero_le _, Nat.zero_le _⟩ dX8_rule_21 (zr_ki0 (fun o6 => ?_))
      refine zr_ifeq (tgt := 38) hB (by decide) dX8_rule_24 ?_ ?_
      · refine zr_iconst (v := 0) hB (by decide) dX8_rule_38 ?_
        exact zr_sub [0, 1, 2] rfl (hj2 0)
      · refine zr_iload_n hB 2 rfl rfl dX8_rule_27 ?_
        refine zr_callS (st := []) (As := [.int a2]) (embc := em_i0 I L) hB (mX8_isRoom (sK := sK) (sV := sV) hi a2 I L) lm_X8_70 q2_X8_isRoom q4_X8 q5_X8_isRoom qd_X8_isRoom (by decide) rfl rfl (Nat.le_of_ble_eq_true rfl) ⟨Nat.zero_le _, Nat.zero_le _⟩ dX8_rule_28 (zr_ki0 (fun o8 => ?_))
        refine zr_ifeq (tgt := 38) hB (by decide) dX8_rule_31 ?_ ?_
        · refine zr_iconst (v := 0) hB (by decide) dX8_rule_38 ?_
          exact zr_sub [0, 1, 2] rfl (hj2 0)
        · refine zr_iconst (v := 1) hB (by decide) dX8_rule_34 ?_
          refine zr_goto (tgt := 39) hB (by decide) dX8_rule_35 ?_
          exact zr_sub [0, 1, 2] rfl (hj2 1)
    · refine zr_iload_n hB 2 rfl rfl dX8_rule_5 ?_
      refine zr_i2l hB dX8_rule_6 ?_
      refine zr_lconst (v := 0) hB (by decide) dX8_rule_7 ?_
      refine zr_ldc2 (v := 100) hB lj_X8_81 dX8_rule_8 ?_
      refine zr_callS (st := []) (As := [.long a2.toInt64, .long 0, .long 100]) (embc := em_i0 I L) hB (mX8_within (sK := sK) (sV := sV) hi a2.toInt64 0 100 I L) lm_X8_54 q2_X8_within q4_X8 q5_X8_within qd_X8_within (by decide) rfl rfl (Nat.le_of_ble_eq_true rfl) ⟨Nat.zero_le _, Nat.zero_le _⟩ dX8_rule_11 (zr_ki0 (fun o10 => ?_))
      refine zr_goto (tgt := 39) hB (by decide) dX8_rule_14 ?_
      exact zr_sub [0, 1, 2] rfl (hj2 o10)

def fX8_lays (a1 : Int32) (a2 : Int32) (a3 : Int32) (I : zI) : Option (zI) :=
  zg 11 120 (
  zg (28 + (I 51 (zn 11))) 120 (
  zl (zup I 51 (zn (28 + (I 51 (zn 11)))) a1) fun J1 =>
  zg 11 120 (
  zg (36 + (J1 51 (zn 11))) 120 (
  zl (zup J1 51 (zn (36 + (J1 51 (zn 11)))) a2) fun J2 =>
  zg 11 120 (
  zg (44 + (J2 51 (zn 11))) 120 (
  zl (zup J2 51 (zn (44 + (J2 51 (zn 11)))) a3) fun J3 =>
  zg 11 120 (
  zg 11 120 (
  zl (zup J3 51 (zn 11) ((J3 51 (zn 11)) + 1)) fun J4 =>
  some J4))))))))
set_option maxHeartbeats 4000000 in
set_option maxRecDepth 100000 in
theorem mX8_lays {l : Launch} {D : va_G} {T : zT} {ad sK sV : Nat → Nat} (hi : zInj ad) (a1 : Int32) (a2 : Int32) (a3 : Int32)  (I : zI) (L : zL) : ∀ o, fX8_lays a1 a2 a3 I = some o → zMet l yX8_lays cX8_lays 4 none 0 0 D T ad sK sV [.ref (ad 50), .int a1, .int a2, .int a3] I L (em_vI L o) := by
  intro o ho
  refine zMet.of hi (by decide +kernel) (Nat.le_of_ble_eq_true rfl) (fun p e s m args below meth c hB => ?_)
  refine zr_top (emb := em_vI L) (t := fX8_lays a1 a2 a3 I) ?_ ho
  unfold fX8_lays
  refine zr_aload_n hB 0 rfl rfl dX8_lays_0 ?_
  refine zr_get_X8 (w := 50) (k := 0) (v := .ref (ad 51)) hB rfl (by decide) rfl lf_X8_9 rfl dX8_lays_1 ?_
  refine zr_bipush (v := 28) hB (by decide) dX8_lays_4 ?_
  refine zr_aload_n hB 0 rfl rfl dX8_lays_6 ?_
  refine zr_get_X8 (w := 50) (k := 0) (v := .ref (ad 51)) hB rfl (by decide) rfl lf_X8_9 rfl dX8_lays_7 ?_
  refine zr_bipush (v := 11) hB (by decide) dX8_lays_10 ?_
  refine zr_iaload hB zA_51 dX8_lays_12 ?_
  refine zr_iadd hB dX8_lays_13 ?_
  refine zr_iload_n hB 1 rfl rfl dX8_lays_14 ?_
  refine zr_iastore hB zA_51 dX8_lays_15 ?_
  refine zr_letM (fun J1 => ?_)
  refine zr_aload_n hB 0 rfl rfl dX8_lays_16 ?_
  refine zr_get_X8 (w := 50) (k := 0) (v := .ref (ad 51)) hB rfl (by decide) rfl lf_X8_9 rfl dX8_lays_17 ?_
  refine zr_bipush (v := 36) hB (by decide) dX8_lays_20 ?_
  refine zr_aload_n hB 0 rfl rfl dX8_lays_22 ?_
  refine zr_get_X8 (w := 50) (k := 0) (v := .ref (ad 51)) hB rfl (by decide) rfl lf_X8_9 rfl dX8_lays_23 ?_
  refine zr_bipush (v := 11) hB (by decide) dX8_lays_26 ?_
  refine zr_iaload hB zA_51 dX8_lays_28 ?_
  refine zr_iadd hB dX8_lays_29 ?_
  refine zr_iload_n hB 2 rfl rfl dX8_lays_30 ?_
  refine zr_iastore hB zA_51 dX8_lays_31 ?_
  refine zr_letM (fun J2 => ?_)
  refine zr_aload_n hB 0 rfl rfl dX8_lays_32 ?_
  refine zr_get_X8 (w := 50) (k := 0) (v := .ref (ad 51)) hB rfl (by decide) rfl lf_X8_9 rfl dX8_lays_33 ?_
  refine zr_bipush (v := 44) hB (by decide) dX8_lays_36 ?_
  refine zr_aload_n hB 0 rfl rfl dX8_lays_38 ?_
  refine zr_get_X8 (w := 50) (k := 0) (v := .ref (ad 51)) hB rfl (by decide) rfl lf_X8_9 rfl dX8_lays_39 ?_
  refine zr_bipush (v := 11) hB (by decide) dX8_lays_42 ?_
  refine zr_iaload hB zA_51 dX8_lays_44 ?_
  refine zr_iadd hB dX8_lays_45 ?_
  refine zr_iload_n hB 3 rfl rfl dX8_lays_46 ?_
  refine zr_iastore hB zA_51 dX8_lays_47 ?_
  refine zr_letM (fun J3 => ?_)
  refine zr_aload_n hB 0 rfl rfl dX8_lays_48 ?_
  refine zr_get_X8 (w := 50) (k := 0) (v := .ref (ad 51)) hB rfl (by decide) rfl lf_X8_9 rfl dX8_lays_49 ?_
  refine zr_bipush (v := 11) hB (by decide) dX8_lays_52 ?_
  refine zr_dup2 hB rfl rfl dX8_lays_54 ?_
  refine zr_iaload hB zA_51 dX8_lays_55 ?_
  refine zr_iconst (v := 1) hB (by decide) dX8_lays_56 ?_
  refine zr_iadd hB dX8_lays_57 ?_
  refine zr_iastore hB zA_51 dX8_lays_58 ?_
  refine zr_letM (fun J4 => ?_)
  exact zr_vret hB rfl rfl dX8_lays_59

def fX8_thing (a1 : Int32) (a2 : Int32) (I : zI) : Option (Int32 × zI) :=
  zb (fX8_isKind a1) fun o2 =>
  if o2 = 0 then
    zb (fX8_finding 0 I) fun o5 =>
    some (o5.1, o5.2)
  else
  zb (fX8_isRoom a2) fun o7 =>
  if o7 = 0 then
    zb (fX8_finding 0 I) fun o16 =>
    some (o16.1, o16.2)
  else
  zg 11 120 (
  if (I 51 (zn 11)) = 8 then
    zb (fX8_finding 1 I) fun o13 =>
    some (o13.1, o13.2)
  else
  zb (fX8_lays a1 a2 8 I) fun o10 =>
  zg 11 120 (
  some ((o10 51 (zn 11)) - 1, o10)))
set_option maxHeartbeats 4000000 in
set_option maxRecDepth 100000 in
theorem mX8_thing {l : Launch} {D : va_G} {T : zT} {ad sK sV : Nat → Nat} (hi : zInj ad) (a1 : Int32) (a2 : Int32)  (I : zI) (L : zL) : ∀ o, fX8_thing a1 a2 I = some o → zMet l yX8_thing cX8_thing 3 (some .int) 2 45 D T ad sK sV [.ref (ad 50), .int a1, .int a2] I L (em_iI L o) := by
  intro o ho
  refine zMet.of hi (by decide +kernel) (Nat.le_of_ble_eq_true rfl) (fun p e s m args below meth c hB => ?_)
  refine zr_top (emb := em_iI L) (t := fX8_thing a1 a2 I) ?_ ho
  unfold fX8_thing
  refine zr_iload_n hB 1 rfl rfl dX8_thing_0 ?_
  refine zr_callS (st := []) (As := [.int a1]) (embc := em_i0 I L) hB (mX8_isKind (sK := sK) (sV := sV) hi a1 I L) lm_X8_83 q2_X8_isKind q4_X8 q5_X8_isKind qd_X8_isKind (by decide) rfl rfl (Nat.le_of_ble_eq_true rfl) ⟨Nat.zero_le _, Nat.zero_le _⟩ dX8_thing_1 (zr_ki0 (fun o2 => ?_))
  refine zr_ifeq (tgt := 14) hB (by decide) dX8_thing_4 ?_ ?_
  · refine zr_aload_n hB 0 rfl rfl dX8_thing_14 ?_
    refine zr_iconst (v := 0) hB (by decide) dX8_thing_15 ?_
    refine zr_callV (st := []) (C := RX8) (As := [.int 0]) (embc := em_iI L) hB (mX8_finding (sK := sK) (sV := sV) hi 0 I L) (zW_X8 rfl) rfl rfl lm_X8_74 q2_X8_finding q3_X8_finding q4_X8 q5_X8_finding qd_X8_finding (by decide) rfl rfl (Nat.le_of_ble_eq_true rfl) ⟨Nat.zero_le _, Nat.zero_le _⟩ dX8_thing_16 (zr_kiI (fun o5 => ?_))
    exact zr_iret hB rfl rfl dX8_thing_19
  · refine zr_iload_n hB 2 rfl rfl dX8_thing_7 ?_
    refine zr_callS (st := []) (As := [.int a2]) (embc := em_i0 I L) hB (mX8_isRoom (sK := sK) (sV := sV) hi a2 I L) lm_X8_70 q2_X8_isRoom q4_X8 q5_X8_isRoom qd_X8_isRoom (by decide) rfl rfl (Nat.le_of_ble_eq_true rfl) ⟨Nat.zero_le _, Nat.zero_le _⟩ dX8_thing_8 (zr_ki0 (fun o7 => ?_))
    refine zr_ifne (tgt := 20) hB (by decide) dX8_thing_11 ?_ ?_
    · refine zr_aload_n hB 0 rfl rfl dX8_thing_20 ?_
      refine zr_get_X8 (w := 50) (k := 0) (v := .ref (ad 51)) hB rfl (by decide) rfl lf_X8_9 rfl dX8_thing_21 ?_
      refine zr_bipush (v := 11) hB (by decide) dX8_thing_24 ?_
      refine zr_iaload hB zA_51 dX8_thing_26 ?_
      refine zr_bipush (v := 8) hB (by decide) dX8_thing_27 ?_
      refine zr_icmp_ne (tgt := 38) hB (by decide) dX8_thing_29 ?_ ?_
      · refine zr_aload_n hB 0 rfl rfl dX8_thing_38 ?_
        refine zr_iload_n hB 1 rfl rfl dX8_thing_39 ?_
        refine zr_iload_n hB 2 rfl rfl dX8_thing_40 ?_
        refine zr_bipush (v := 8) hB (by decide) dX8_thing_41 ?_
        refine zr_callV (st := []) (C := RX8) (As := [.int a1, .int a2, .int 8]) (embc := em_vI L) hB (mX8_lays (sK := sK) (sV := sV) hi a1 a2 8 I L) (zW_X8 rfl) rfl rfl lm_X8_86 q2_X8_lays q3_X8_lays q4_X8 q5_X8_lays qd_X8_lays (by decide) rfl rfl (Nat.le_of_ble_eq_true rfl) ⟨Nat.zero_le _, Nat.zero_le _⟩ dX8_thing_43 (zr_kvI (fun o10 => ?_))
        refine zr_aload_n hB 0 rfl rfl dX8_thing_46 ?_
        refine zr_get_X8 (w := 50) (k := 0) (v := .ref (ad 51)) hB rfl (by decide) rfl lf_X8_9 rfl dX8_thing_47 ?_
        refine zr_bipush (v := 11) hB (by decide) dX8_thing_50 ?_
        refine zr_iaload hB zA_51 dX8_thing_52 ?_
        refine zr_iconst (v := 1) hB (by decide) dX8_thing_53 ?_
        refine zr_isub hB dX8_thing_54 ?_
        exact zr_iret hB rfl rfl dX8_thing_55
      · refine zr_aload_n hB 0 rfl rfl dX8_thing_32 ?_
        refine zr_iconst (v := 1) hB (by decide) dX8_thing_33 ?_
        refine zr_callV (st := []) (C := RX8) (As := [.int 1]) (embc := em_iI L) hB (mX8_finding (sK := sK) (sV := sV) hi 1 I L) (zW_X8 rfl) rfl rfl lm_X8_74 q2_X8_finding q3_X8_finding q4_X8 q5_X8_finding qd_X8_finding (by decide) rfl rfl (Nat.le_of_ble_eq_true rfl) ⟨Nat.zero_le _, Nat.zero_le _⟩ dX8_thing_34 (zr_kiI (fun o13 => ?_))
        exact zr_iret hB rfl rfl dX8_thing_37
    · refine zr_aload_n hB 0 rfl rfl dX8_thing_14 ?_
      refine zr_iconst (v := 0) hB (by decide) dX8_thing_15 ?_
      refine zr_callV (st := []) (C := RX8) (As := [.int 0]) (embc := em_iI L) hB (mX8_finding (sK := sK) (sV := sV) hi 0 I L) (zW_X8 rfl) rfl rfl lm_X8_74 q2_X8_finding q3_X8_finding q4_X8 q5_X8_finding qd_X8_finding (by decide) rfl rfl (Nat.le_of_ble_eq_true rfl) ⟨Nat.zero_le _, Nat.zero_le _⟩ dX8_thing_16 (zr_kiI (fun o16 => ?_))
      exact zr_iret hB rfl rfl dX8_thing_19

def fX8_of (a1 : Int32) (a2 : Int32) (I : zI) : Option (Int32 × zI) :=
  zb (fX8_isThing a1 I) fun o2 =>
  if o2 = 0 then
    zb (fX8_finding 0 I) fun o5 =>
    some (o5.1, o5.2)
  else
  zb (fX8_within a2.toInt64 0 7) fun o7 =>
  if o7 = 0 then
    zb (fX8_finding 0 I) fun o12 =>
    some (o12.1, o12.2)
  else
  if 3 ≤ a2 then
    zb (fX8_weighs a1 (a2 - 3) I) fun o9 =>
    some (o9, I)
  else
  zg ((28 + (8 * a2)) + a1) 120 (
  some (I 51 (zn ((28 + (8 * a2)) + a1)), I))
set_option maxHeartbeats 4000000 in
set_option maxRecDepth 100000 in
theorem mX8_of {l : Launch} {D : va_G} {T : zT} {ad sK sV : Nat → Nat} (hi : zInj ad) (a1 : Int32) (a2 : Int32)  (I : zI) (L : zL) : ∀ o, fX8_of a1 a2 I = some o → zMet l yX8_of cX8_of 3 (some .int) 2 46 D T ad sK sV [.ref (ad 50), .int a1, .int a2] I L (em_iI L o) := by
  intro o ho
  refine zMet.of hi (by decide +kernel) (Nat.le_of_ble_eq_true rfl) (fun p e s m args below meth c hB => ?_)
  refine zr_top (emb := em_iI L) (t := fX8_of a1 a2 I) ?_ ho
  unfold fX8_of
  refine zr_aload_n hB 0 rfl rfl dX8_of_0 ?_
  refine zr_iload_n hB 1 rfl rfl dX8_of_1 ?_
  refine zr_callV (st := []) (C := RX8) (As := [.int a1]) (embc := em_i0 I L) hB (mX8_isThing (sK := sK) (sV := sV) hi a1 I L) (zW_X8 rfl) rfl rfl lm_X8_90 q2_X8_isThing q3_X8_isThing q4_X8 q5_X8_isThing qd_X8_isThing (by decide) rfl rfl (Nat.le_of_ble_eq_true rfl) ⟨Nat.zero_le _, Nat.zero_le _⟩ dX8_of_2 (zr_ki0 (fun o2 => ?_))
  refine zr_ifeq (tgt := 20) hB (by decide) dX8_of_5 ?_ ?_
  · refine zr_aload_n hB 0 rfl rfl dX8_of_20 ?_
    refine zr_iconst (v := 0) hB (by decide) dX8_of_21 ?_
    refine zr_callV (st := []) (C := RX8) (As := [.int 0]) (embc := em_iI L) hB (mX8_finding (sK := sK) (sV := sV) hi 0 I L) (zW_X8 rfl) rfl rfl lm_X8_74 q2_X8_finding q3_X8_finding q4_X8 q5_X8_finding qd_X8_finding (by decide) rfl rfl (Nat.le_of_ble_eq_true rfl) ⟨Nat.zero_le _, Nat.zero_le _⟩ dX8_of_22 (zr_kiI (fun o5 => ?_))
    exact zr_iret hB rfl rfl dX8_of_25
  · refine zr_iload_n hB 2 rfl rfl dX8_of_8 ?_
    refine zr_i2l hB dX8_of_9 ?_
    refine zr_lconst (v := 0) hB (by decide) dX8_of_10 ?_
    refine zr_ldc2 (v := 7) hB lj_X8_52 dX8_of_11 ?_
    refine zr_callS (st := []) (As := [.long a2.toInt64, .long 0, .long 7]) (embc := em_i0 I L) hB (mX8_within (sK := sK) (sV := sV) hi a2.toInt64 0 7 I L) lm_X8_54 q2_X8_within q4_X8 q5_X8_within qd_X8_within (by decide) rfl rfl (Nat.le_of_ble_eq_true rfl) ⟨Nat.zero_le _, Nat.zero_le _⟩ dX8_of_14 (zr_ki0 (fun o7 => ?_))
    refine zr_ifne (tgt := 26) hB (by decide) dX8_of_17 ?_ ?_
    · refine zr_iload_n hB 2 rfl rfl dX8_of_26 ?_
      refine zr_iconst (v := 3) hB (by decide) dX8_of_27 ?_
      refine zr_icmp_ge (tgt := 48) hB (by decide) dX8_of_28 ?_ ?_
      · refine zr_aload_n hB 0 rfl rfl dX8_of_48 ?_
        refine zr_iload_n hB 1 rfl rfl dX8_of_49 ?_
        refine zr_iload_n hB 2 rfl rfl dX8_of_50 ?_
        refine zr_iconst (v := 3) hB (by decide) dX8_of_51 ?_
        refine zr_isub hB dX8_of_52 ?_
        refine zr_callV (st := []) (C := RX8) (As := [.int a1, .int (a2 - 3)]) (embc := em_i0 I L) hB (mX8_weighs (sK := sK) (sV := sV) hi a1 (a2 - 3) I L) (zW_X8 rfl) rfl rfl lm_X8_93 q2_X8_weighs q3_X8_weighs q4_X8 q5_X8_weighs qd_X8_weighs (by decide) rfl rfl (Nat.le_of_ble_eq_true rfl) ⟨Nat.zero_le _, Nat.zero_le _⟩ dX8_of_53 (zr_ki0 (fun o9 => ?_))
        exact zr_iret hB rfl rfl dX8_of_56
      · refine zr_aload_n hB 0 rfl rfl dX8_of_31 ?_
        refine zr_get_X8 (w := 50) (k := 0) (v := .ref (ad 51)) hB rfl (by decide) rfl lf_X8_9 rfl dX8_of_32 ?_
        refine zr_bipush (v := 28) hB (by decide) dX8_of_35 ?_
        refine zr_bipush (v := 8) hB (by decide) dX8_of_37 ?_
        refine zr_iload_n hB 2 rfl rfl dX8_of_39 ?_
        refine zr_imul hB dX8_of_40 ?_
        refine zr_iadd hB dX8_of_41 ?_
        refine zr_iload_n hB 1 rfl rfl dX8_of_42 ?_
        refine zr_iadd hB dX8_of_43 ?_
        refine zr_iaload hB zA_51 dX8_of_44 ?_
        refine zr_goto (tgt := 56) hB (by decide) dX8_of_45 ?_
        exact zr_iret hB rfl rfl dX8_of_56
    · refine zr_aload_n hB 0 rfl rfl dX8_of_20 ?_
      refine zr_iconst (v := 0) hB (by decide) dX8_of_21 ?_
      refine zr_callV (st := []) (C := RX8) (As := [.int 0]) (embc := em_iI L) hB (mX8_finding (sK := sK) (sV := sV) hi 0 I L) (zW_X8 rfl) rfl rfl lm_X8_74 q2_X8_finding q3_X8_finding q4_X8 q5_X8_finding qd_X8_finding (by decide) rfl rfl (Nat.le_of_ble_eq_true rfl) ⟨Nat.zero_le _, Nat.zero_le _⟩ dX8_of_22 (zr_kiI (fun o12 => ?_))
      exact zr_iret hB rfl rfl dX8_of_25

def fX8_change (a1 : Int32) (a2 : Int32) (a3 : Int32) (I : zI) : Option (Int32 × zI) :=
  zb (
    if a2 = 0 then
      zb (fX8_isKind a3) fun o10 =>
      some o10
    else
    if a2 = 1 then
      zb (fX8_isRoom a3) fun o8 =>
      some o8
    else
    if a2 = 2 then
      zb (fX8_within a3.toInt64 1 60) fun o6 =>
      if o6 = 0 then
        some 0
      else
      some 1
    else
    some 0) fun x1 : Int32 =>
  zb (fX8_isThing a1 I) fun o12 =>
  if o12 = 0 then
    zb (fX8_finding 0 I) fun o15 =>
    some (o15.1, o15.2)
  else
  if x1 = 0 then
    zb (fX8_finding 0 I) fun o20 =>
    some (o20.1, o20.2)
  else
  zg ((28 + (8 * a2)) + a1) 120 (
  zl (I 51 (zn ((28 + (8 * a2)) + a1))) fun v16 =>
  zg ((28 + (8 * a2)) + a1) 120 (
  zl (zup I 51 (zn ((28 + (8 * a2)) + a1)) a3) fun J17 =>
  some (v16, J17)))
set_option maxHeartbeats 4000000 in
set_option maxRecDepth 100000 in
theorem mX8_change {l : Launch} {D : va_G} {T : zT} {ad sK sV : Nat → Nat} (hi : zInj ad) (a1 : Int32) (a2 : Int32) (a3 : Int32)  (I : zI) (L : zL) : ∀ o, fX8_change a1 a2 a3 I = some o → zMet l yX8_change cX8_change 6 (some .int) 2 46 D T ad sK sV [.ref (ad 50), .int a1, .int a2, .int a3] I L (em_iI L o) := by
  intro o ho
  refine zMet.of hi (by decide +kernel) (Nat.le_of_ble_eq_true rfl) (fun p e s m args below meth c hB => ?_)
  refine zr_top (emb := em_iI L) (t := fX8_change a1 a2 a3 I) ?_ ho
  unfold fX8_change
  refine zr_iload_n hB 2 rfl rfl dX8_change_0 ?_
  refine zr_join (pcJ := 45) (fun x1 : Int32 => [(0, .ref (ad 50)), (1, .int a1), (2, .int a2), (3, .int a3)]) (fun x1 => [.int x1]) (fun x1 => I) (fun x1 => L) (fun x1 => ?_) (fun K4 hj2 => ?_)
  · refine zr_istore (lv' := [(4, .int x1), (0, .ref (ad 50)), (1, .int a1), (2, .int a2), (3, .int a3)]) hB (by decide) rfl dX8_change_45 ?_
    refine zr_aload_n hB 1 rfl rfl dX8_change_47 ?_
    refine zr_iload_n hB 2 rfl rfl dX8_change_48 ?_
    refine zr_callV (st := []) (C := RX8) (As := [.int a1]) (embc := em_i0 I L) hB (mX8_isThing (sK := sK) (sV := sV) hi a1 I L) (zW_X8 rfl) rfl rfl lm_X8_90 q2_X8_isThing q3_X8_isThing q4_X8 q5_X8_isThing qd_X8_isThing (by decide) rfl rfl (Nat.le_of_ble_eq_true rfl) ⟨Nat.zero_le _, Nat.zero_le _⟩ dX8_change_49 (zr_ki0 (fun o12 => ?_))
    refine zr_ifeq (tgt := 60) hB (by decide) dX8_change_52 ?_ ?_
    · refine zr_aload_n hB 1 rfl rfl dX8_change_60 ?_
      refine zr_iconst (v := 0) hB (by decide) dX8_change_61 ?_
      refine zr_callV (st := []) (C := RX8) (As := [.int 0]) (embc := em_iI L) hB (mX8_finding (sK := sK) (sV := sV) hi 0 I L) (zW_X8 rfl) rfl rfl lm_X8_74 q2_X8_finding q3_X8_finding q4_X8 q5_X8_finding qd_X8_finding (by decide) rfl rfl (Nat.le_of_ble_eq_true rfl) ⟨Nat.zero_le _, Nat.zero_le _⟩ dX8_change_62 (zr_kiI (fun o15 => ?_))
      exact zr_iret hB rfl rfl dX8_change_65
    · refine zr_iload hB 0 rfl dX8_change_55 ?_
      refine zr_ifne (tgt := 66) hB (by decide) dX8_change_57 ?_ ?_
      · refine zr_aload_n hB 1 rfl rfl dX8_change_66 ?_
        refine zr_get_X8 (w := 50) (k := 0) (v := .ref (ad 51)) hB rfl (by decide) rfl lf_X8_9 rfl dX8_change_67 ?_
        refine zr_bipush (v := 28) hB (by decide) dX8_change_70 ?_
        refine zr_bipush (v := 8) hB (by decide) dX8_change_72 ?_
        refine zr_iload_n hB 3 rfl rfl dX8_change_74 ?_
        refine zr_imul hB dX8_change_75 ?_
        refine zr_iadd hB dX8_change_76 ?_
        refine zr_iload_n hB 2 rfl rfl dX8_change_77 ?_
        refine zr_iadd hB dX8_change_78 ?_
        refine zr_iaload hB zA_51 dX8_change_79 ?_
        refine zr_letI (fun v16 => ?_)
        refine zr_istore (lv' := [(5, .int v16), (4, .int x1), (0, .ref (ad 50)), (1, .int a1), (2, .int a2), (3, .int a3)]) hB (by decide) rfl dX8_change_80 ?_
        refine zr_aload_n hB 2 rfl rfl dX8_change_82 ?_
        refine zr_get_X8 (w := 50) (k := 0) (v := .ref (ad 51)) hB rfl (by decide) rfl lf_X8_9 rfl dX8_change_83 ?_
        refine zr_bipush (v := 28) hB (by decide) dX8_change_86 ?_
        refine zr_bipush (v := 8) hB (by decide) dX8_change_88 ?_
        refine zr_iload_n hB 4 rfl rfl dX8_change_90 ?_
        refine zr_imul hB dX8_change_91 ?_
        refine zr_iadd hB dX8_change_92 ?_
        refine zr_iload_n hB 3 rfl rfl dX8_change_93 ?_
        refine zr_iadd hB dX8_change_94 ?_
        refine zr_iload_n hB 5 rfl rfl dX8_change_95 ?_
        refine zr_iastore hB zA_51 dX8_change_96 ?_
        refine zr_letM (fun J17 => ?_)
        refine zr_iload hB 0 rfl dX8_change_97 ?_
        exact zr_iret hB rfl rfl dX8_change_99
      · refine zr_aload_n hB 1 rfl rfl dX8_change_60 ?_
        refine zr_iconst (v := 0) hB (by decide) dX8_change_61 ?_
        refine zr_callV (st := []) (C := RX8) (As := [.int 0]) (embc := em_iI L) hB (mX8_finding (sK := sK) (sV := sV) hi 0 I L) (zW_X8 rfl) rfl rfl lm_X8_74 q2_X8_finding q3_X8_finding q4_X8 q5_X8_finding qd_X8_finding (by decide) rfl rfl (Nat.le_of_ble_eq_true rfl) ⟨Nat.zero_le _, Nat.zero_le _⟩ dX8_change_62 (zr_kiI (fun o20 => ?_))
        exact zr_iret hB rfl rfl dX8_change_65
  · refine zr_ifne (tgt := 11) hB (by decide) dX8_change_1 ?_ ?_
    · refine zr_iload_n hB 2 rfl rfl dX8_change_11 ?_
      refine zr_iconst (v := 1) hB (by decide) dX8_change_12 ?_
      refine zr_icmp_ne (tgt := 23) hB (by decide) dX8_change_13 ?_ ?_
      · refine zr_iload_n hB 2 rfl rfl dX8_change_23 ?_
        refine zr_iconst (v := 2) hB (by decide) dX8_change_24 ?_
        refine zr_icmp_ne (tgt := 44) hB (by decide) dX8_change_25 ?_ ?_
        · refine zr_iconst (v := 0) hB (by decide) dX8_change_44 ?_
          exact zr_sub [0, 1, 2, 3] rfl (hj2 0)
        · refine zr_iload_n hB 3 rfl rfl dX8_change_28 ?_
          refine zr_i2l hB dX8_change_29 ?_
          refine zr_lconst (v := 1) hB (by decide) dX8_change_30 ?_
          refine zr_ldc2 (v := 60) hB lj_X8_97 dX8_change_31 ?_
          refine zr_callS (st := []) (As := [.long a3.toInt64, .long 1, .long 60]) (embc := em_i0 I L) hB (mX8_within (sK := sK) (sV := sV) hi a3.toInt64 1 60 I L) lm_X8_54 q2_X8_within q4_X8 q5_X8_within qd_X8_within (by decide) rfl rfl (Nat.le_of_ble_eq_true rfl) ⟨Nat.zero_le _, Nat.zero_le _⟩ dX8_change_34 (zr_ki0 (fun o6 => ?_))
          refine zr_ifeq (tgt := 44) hB (by decide) dX8_change_37 ?_ ?_
          · refine zr_iconst (v := 0) hB (by decide) dX8_change_44 ?_
            exact zr_sub [0, 1, 2, 3] rfl (hj2 0)
          · refine zr_iconst (v := 1) hB (by decide) dX8_change_40 ?_
            refine zr_goto (tgt := 45) hB (by decide) dX8_change_41 ?_
            exact zr_sub [0, 1, 2, 3] rfl (hj2 1)
      · refine zr_iload_n hB 3 rfl rfl dX8_change_16 ?_
        refine zr_callS (st := []) (As := [.int a3]) (embc := em_i0 I L) hB (mX8_isRoom (sK := sK) (sV := sV) hi a3 I L) lm_X8_70 q2_X8_isRoom q4_X8 q5_X8_isRoom qd_X8_isRoom (by decide) rfl rfl (Nat.le_of_ble_eq_true rfl) ⟨Nat.zero_le _, Nat.zero_le _⟩ dX8_change_17 (zr_ki0 (fun o8 => ?_))
        refine zr_goto (tgt := 45) hB (by decide) dX8_change_20 ?_
        exact zr_sub [0, 1, 2, 3] rfl (hj2 o8)
    · refine zr_iload_n hB 3 rfl rfl dX8_change_4 ?_
      refine zr_callS (st := []) (As := [.int a3]) (embc := em_i0 I L) hB (mX8_isKind (sK := sK) (sV := sV) hi a3 I L) lm_X8_83 q2_X8_isKind q4_X8 q5_X8_isKind qd_X8_isKind (by decide) rfl rfl (Nat.le_of_ble_eq_true rfl) ⟨Nat.zero_le _, Nat.zero_le _⟩ dX8_change_5 (zr_ki0 (fun o10 => ?_))
      refine zr_goto (tgt := 45) hB (by decide) dX8_change_8 ?_
      exact zr_sub [0, 1, 2, 3] rfl (hj2 o10)

def fX8_comes (a1 : Int32) (a2 : Int32) (I : zI) : Option (zI) :=
  zg 12 120 (
  zg (52 + (I 51 (zn 12))) 120 (
  zl (zup I 51 (zn (52 + (I 51 (zn 12)))) a1) fun J1 =>
  zg 12 120 (
  zg (56 + (J1 51 (zn 12))) 120 (
  zl (zup J1 51 (zn (56 + (J1 51 (zn 12)))) a2) fun J2 =>
  zg 12 120 (
  zg 12 120 (
  zl (zup J2 51 (zn 12) ((J2 51 (zn 12)) + 1)) fun J3 =>
  some J3))))))
set_option maxHeartbeats 4000000 in
set_option maxRecDepth 100000 in
theorem mX8_comes {l : Launch} {D : va_G} {T : zT} {ad sK sV : Nat → Nat} (hi : zInj ad) (a1 : Int32) (a2 : Int32)  (I : zI) (L : zL) : ∀ o, fX8_comes a1 a2 I = some o → zMet l yX8_comes cX8_comes 3 none 0 0 D T ad sK sV [.ref (ad 50), .int a1, .int a2] I L (em_vI L o) := by
  intro o ho
  refine zMet.of hi (by decide +kernel) (Nat.le_of_ble_eq_true rfl) (fun p e s m args below meth c hB => ?_)
  refine zr_top (emb := em_vI L) (t := fX8_comes a1 a2 I) ?_ ho
  unfold fX8_comes
  refine zr_aload_n hB 0 rfl rfl dX8_comes_0 ?_
  refine zr_get_X8 (w := 50) (k := 0) (v := .ref (ad 51)) hB rfl (by decide) rfl lf_X8_9 rfl dX8_comes_1 ?_
  refine zr_bipush (v := 52) hB (by decide) dX8_comes_4 ?_
  refine zr_aload_n hB 0 rfl rfl dX8_comes_6 ?_
  refine zr_get_X8 (w := 50) (k := 0) (v := .ref (ad 51)) hB rfl (by decide) rfl lf_X8_9 rfl dX8_comes_7 ?_
  refine zr_bipush (v := 12) hB (by decide) dX8_comes_10 ?_
  refine zr_iaload hB zA_51 dX8_comes_12 ?_
  refine zr_iadd hB dX8_comes_13 ?_
  refine zr_iload_n hB 1 rfl rfl dX8_comes_14 ?_
  refine zr_iastore hB zA_51 dX8_comes_15 ?_
  refine zr_letM (fun J1 => ?_)
  refine zr_aload_n hB 0 rfl rfl dX8_comes_16 ?_
  refine zr_get_X8 (w := 50) (k := 0) (v := .ref (ad 51)) hB rfl (by decide) rfl lf_X8_9 rfl dX8_comes_17 ?_
  refine zr_bipush (v := 56) hB (by decide) dX8_comes_20 ?_
  refine zr_aload_n hB 0 rfl rfl dX8_comes_22 ?_
  refine zr_get_X8 (w := 50) (k := 0) (v := .ref (ad 51)) hB rfl (by decide) rfl lf_X8_9 rfl dX8_comes_23 ?_
  refine zr_bipush (v := 12) hB (by decide) dX8_comes_26 ?_
  refine zr_iaload hB zA_51 dX8_comes_28 ?_
  refine zr_iadd hB dX8_comes_29 ?_
  refine zr_iload_n hB 2 rfl rfl dX8_comes_30 ?_
  refine zr_iastore hB zA_51 dX8_comes_31 ?_
  refine zr_letM (fun J2 => ?_)
  refine zr_aload_n hB 0 rfl rfl dX8_comes_32 ?_
  refine zr_get_X8 (w := 50) (k := 0) (v := .ref (ad 51)) hB rfl (by decide) rfl lf_X8_9 rfl dX8_comes_33 ?_
  refine zr_bipush (v := 12) hB (by decide) dX8_comes_36 ?_
  refine zr_dup2 hB rfl rfl dX8_comes_38 ?_
  refine zr_iaload hB zA_51 dX8_comes_39 ?_
  refine zr_iconst (v := 1) hB (by decide) dX8_comes_40 ?_
  refine zr_iadd hB dX8_comes_41 ?_
  refine zr_iastore hB zA_51 dX8_comes_42 ?_
  refine zr_letM (fun J3 => ?_)
  exact zr_vret hB rfl rfl dX8_comes_43

def fX8_one (a1 : Int32) (I : zI) : Option (Int32 × zI) :=
  zb (fX8_isPlace a1) fun o2 =>
  if o2 = 0 then
    zb (fX8_finding 0 I) fun o11 =>
    some (o11.1, o11.2)
  else
  zg 12 120 (
  if (I 51 (zn 12)) = 4 then
    zb (fX8_finding 1 I) fun o8 =>
    some (o8.1, o8.2)
  else
  zb (fX8_comes a1 10 I) fun o5 =>
  zg 12 120 (
  some ((o5 51 (zn 12)) - 1, o5)))
set_option maxHeartbeats 4000000 in
set_option maxRecDepth 100000 in
theorem mX8_one {l : Launch} {D : va_G} {T : zT} {ad sK sV : Nat → Nat} (hi : zInj ad) (a1 : Int32)  (I : zI) (L : zL) : ∀ o, fX8_one a1 I = some o → zMet l yX8_one cX8_one 2 (some .int) 2 45 D T ad sK sV [.ref (ad 50), .int a1] I L (em_iI L o) := by
  intro o ho
  refine zMet.of hi (by decide +kernel) (Nat.le_of_ble_eq_true rfl) (fun p e s m args below meth c hB => ?_)
  refine zr_top (emb := em_iI L) (t := fX8_one a1 I) ?_ ho
  unfold fX8_one
  refine zr_iload_n hB 1 rfl rfl dX8_one_0 ?_
  refine zr_callS (st := []) (As := [.int a1]) (embc := em_i0 I L) hB (mX8_isPlace (sK := sK) (sV := sV) hi a1 I L) lm_X8_99 q2_X8_isPlace q4_X8 q5_X8_isPlace qd_X8_isPlace (by decide) rfl rfl (Nat.le_of_ble_eq_true rfl) ⟨Nat.zero_le _, Nat.zero_le _⟩ dX8_one_1 (zr_ki0 (fun o2 => ?_))
  refine zr_ifne (tgt := 13) hB (by decide) dX8_one_4 ?_ ?_
  · refine zr_aload_n hB 0 rfl rfl dX8_one_13 ?_
    refine zr_get_X8 (w := 50) (k := 0) (v := .ref (ad 51)) hB rfl (by decide) rfl lf_X8_9 rfl dX8_one_14 ?_
    refine zr_bipush (v := 12) hB (by decide) dX8_one_17 ?_
    refine zr_iaload hB zA_51 dX8_one_19 ?_
    refine zr_iconst (v := 4) hB (by decide) dX8_one_20 ?_
    refine zr_icmp_ne (tgt := 30) hB (by decide) dX8_one_21 ?_ ?_
    · refine zr_aload_n hB 0 rfl rfl dX8_one_30 ?_
      refine zr_iload_n hB 1 rfl rfl dX8_one_31 ?_
      refine zr_bipush (v := 10) hB (by decide) dX8_one_32 ?_
      refine zr_callV (st := []) (C := RX8) (As := [.int a1, .int 10]) (embc := em_vI L) hB (mX8_comes (sK := sK) (sV := sV) hi a1 10 I L) (zW_X8 rfl) rfl rfl lm_X8_102 q2_X8_comes q3_X8_comes q4_X8 q5_X8_comes qd_X8_comes (by decide) rfl rfl (Nat.le_of_ble_eq_true rfl) ⟨Nat.zero_le _, Nat.zero_le _⟩ dX8_one_34 (zr_kvI (fun o5 => ?_))
      refine zr_aload_n hB 0 rfl rfl dX8_one_37 ?_
      refine zr_get_X8 (w := 50) (k := 0) (v := .ref (ad 51)) hB rfl (by decide) rfl lf_X8_9 rfl dX8_one_38 ?_
      refine zr_bipush (v := 12) hB (by decide) dX8_one_41 ?_
      refine zr_iaload hB zA_51 dX8_one_43 ?_
      refine zr_iconst (v := 1) hB (by decide) dX8_one_44 ?_
      refine zr_isub hB dX8_one_45 ?_
      exact zr_iret hB rfl rfl dX8_one_46
    · refine zr_aload_n hB 0 rfl rfl dX8_one_24 ?_
      refine zr_iconst (v := 1) hB (by decide) dX8_one_25 ?_
      refine zr_callV (st := []) (C := RX8) (As := [.int 1]) (embc := em_iI L) hB (mX8_finding (sK := sK) (sV := sV) hi 1 I L) (zW_X8 rfl) rfl rfl lm_X8_74 q2_X8_finding q3_X8_finding q4_X8 q5_X8_finding qd_X8_finding (by decide) rfl rfl (Nat.le_of_ble_eq_true rfl) ⟨Nat.zero_le _, Nat.zero_le _⟩ dX8_one_26 (zr_kiI (fun o8 => ?_))
      exact zr_iret hB rfl rfl dX8_one_29
  · refine zr_aload_n hB 0 rfl rfl dX8_one_7 ?_
    refine zr_iconst (v := 0) hB (by decide) dX8_one_8 ?_
    refine zr_callV (st := []) (C := RX8) (As := [.int 0]) (embc := em_iI L) hB (mX8_finding (sK := sK) (sV := sV) hi 0 I L) (zW_X8 rfl) rfl rfl lm_X8_74 q2_X8_finding q3_X8_finding q4_X8 q5_X8_finding qd_X8_finding (by decide) rfl rfl (Nat.le_of_ble_eq_true rfl) ⟨Nat.zero_le _, Nat.zero_le _⟩ dX8_one_9 (zr_kiI (fun o11 => ?_))
    exact zr_iret hB rfl rfl dX8_one_12

def fX8_person (a1 : Int32) (a2 : Int32) (a3 : Int32) (I : zI) : Option (Int32 × zI) :=
  zb (
    if a2 = 0 then
      zb (fX8_isPlace a3) fun o8 =>
      some o8
    else
    if a2 = 1 then
      zb (fX8_within a3.toInt64 0 60) fun o6 =>
      if o6 = 0 then
        some 0
      else
      some 1
    else
    some 0) fun x1 : Int32 =>
  zb (fX8_isOne a1 I) fun o10 =>
  if o10 = 0 then
    zb (fX8_finding 0 I) fun o13 =>
    some (o13.1, o13.2)
  else
  if x1 = 0 then
    zb (fX8_finding 0 I) fun o18 =>
    some (o18.1, o18.2)
  else
  zg ((52 + (4 * a2)) + a1) 120 (
  zl (I 51 (zn ((52 + (4 * a2)) + a1))) fun v14 =>
  zg ((52 + (4 * a2)) + a1) 120 (
  zl (zup I 51 (zn ((52 + (4 * a2)) + a1)) a3) fun J15 =>
  some (v14, J15)))
set_option maxHeartbeats 4000000 in
set_option maxRecDepth 100000 in
theorem mX8_person {l : Launch} {D : va_G} {T : zT} {ad sK sV : Nat → Nat} (hi : zInj ad) (a1 : Int32) (a2 : Int32) (a3 : Int32)  (I : zI) (L : zL) : ∀ o, fX8_person a1 a2 a3 I = some o → zMet l yX8_person cX8_person 6 (some .int) 2 46 D T ad sK sV [.ref (ad 50), .int a1, .int a2, .int a3] I L (em_iI L o) := by
  intro o ho
  refine zMet.of hi (by decide +kernel) (Nat.le_of_ble_eq_true rfl) (fun p e s m args below meth c hB => ?_)
  refine zr_top (emb := em_iI L) (t := fX8_person a1 a2 a3 I) ?_ ho
  unfold fX8_person
  refine zr_iload_n hB 2 rfl rfl dX8_person_0 ?_
  refine zr_join (pcJ := 33) (fun x1 : Int32 => [(0, .ref (ad 50)), (1, .int a1), (2, .int a2), (3, .int a3)]) (fun x1 => [.int x1]) (fun x1 => I) (fun x1 => L) (fun x1 => ?_) (fun K4 hj2 => ?_)
  · refine zr_istore (lv' := [(4, .int x1), (0, .ref (ad 50)), (1, .int a1), (2, .int a2), (3, .int a3)]) hB (by decide) rfl dX8_person_33 ?_
    refine zr_aload_n hB 1 rfl rfl dX8_person_35 ?_
    refine zr_iload_n hB 2 rfl rfl dX8_person_36 ?_
    refine zr_callV (st := []) (C := RX8) (As := [.int a1]) (embc := em_i0 I L) hB (mX8_isOne (sK := sK) (sV := sV) hi a1 I L) (zW_X8 rfl) rfl rfl lm_X8_106 q2_X8_isOne q3_X8_isOne q4_X8 q5_X8_isOne qd_X8_isOne (by decide) rfl rfl (Nat.le_of_ble_eq_true rfl) ⟨Nat.zero_le _, Nat.zero_le _⟩ dX8_person_37 (zr_ki0 (fun o10 => ?_))
    refine zr_ifeq (tgt := 48) hB (by decide) dX8_person_40 ?_ ?_
    · refine zr_aload_n hB 1 rfl rfl dX8_person_48 ?_
      refine zr_iconst (v := 0) hB (by decide) dX8_person_49 ?_
      refine zr_callV (st := []) (C := RX8) (As := [.int 0]) (embc := em_iI L) hB (mX8_finding (sK := sK) (sV := sV) hi 0 I L) (zW_X8 rfl) rfl rfl lm_X8_74 q2_X8_finding q3_X8_finding q4_X8 q5_X8_finding qd_X8_finding (by decide) rfl rfl (Nat.le_of_ble_eq_true rfl) ⟨Nat.zero_le _, Nat.zero_le _⟩ dX8_person_50 (zr_kiI (fun o13 => ?_))
      exact zr_iret hB rfl rfl dX8_person_53
    · refine zr_iload hB 0 rfl dX8_person_43 ?_
      refine zr_ifne (tgt := 54) hB (by decide) dX8_person_45 ?_ ?_
      · refine zr_aload_n hB 1 rfl rfl dX8_person_54 ?_
        refine zr_get_X8 (w := 50) (k := 0) (v := .ref (ad 51)) hB rfl (by decide) rfl lf_X8_9 rfl dX8_person_55 ?_
        refine zr_bipush (v := 52) hB (by decide) dX8_person_58 ?_
        refine zr_iconst (v := 4) hB (by decide) dX8_person_60 ?_
        refine zr_iload_n hB 3 rfl rfl dX8_person_61 ?_
        refine zr_imul hB dX8_person_62 ?_
        refine zr_iadd hB dX8_person_63 ?_
        refine zr_iload_n hB 2 rfl rfl dX8_person_64 ?_
        refine zr_iadd hB dX8_person_65 ?_
        refine zr_iaload hB zA_51 dX8_person_66 ?_
        refine zr_letI (fun v14 => ?_)
        refine zr_istore (lv' := [(5, .int v14), (4, .int x1), (0, .ref (ad 50)), (1, .int a1), (2, .int a2), (3, .int a3)]) hB (by decide) rfl dX8_person_67 ?_
        refine zr_aload_n hB 2 rfl rfl dX8_person_69 ?_
        refine zr_get_X8 (w := 50) (k := 0) (v := .ref (ad 51)) hB rfl (by decide) rfl lf_X8_9 rfl dX8_person_70 ?_
        refine zr_bipush (v := 52) hB (by decide) dX8_person_73 ?_
        refine zr_iconst (v := 4) hB (by decide) dX8_person_75 ?_
        refine zr_iload_n hB 4 rfl rfl dX8_person_76 ?_
        refine zr_imul hB dX8_person_77 ?_
        refine zr_iadd hB dX8_person_78 ?_
        refine zr_iload_n hB 3 rfl rfl dX8_person_79 ?_
        refine zr_iadd hB dX8_person_80 ?_
        refine zr_iload_n hB 5 rfl rfl dX8_person_81 ?_
        refine zr_iastore hB zA_51 dX8_person_82 ?_
        refine zr_letM (fun J15 => ?_)
        refine zr_iload hB 0 rfl dX8_person_83 ?_
        exact zr_iret hB rfl rfl dX8_person_85
      · refine zr_aload_n hB 1 rfl rfl dX8_person_48 ?_
        refine zr_iconst (v := 0) hB (by decide) dX8_person_49 ?_
        refine zr_callV (st := []) (C := RX8) (As := [.int 0]) (embc := em_iI L) hB (mX8_finding (sK := sK) (sV := sV) hi 0 I L) (zW_X8 rfl) rfl rfl lm_X8_74 q2_X8_finding q3_X8_finding q4_X8 q5_X8_finding qd_X8_finding (by decide) rfl rfl (Nat.le_of_ble_eq_true rfl) ⟨Nat.zero_le _, Nat.zero_le _⟩ dX8_person_50 (zr_kiI (fun o18 => ?_))
        exact zr_iret hB rfl rfl dX8_person_53
  · refine zr_ifne (tgt := 11) hB (by decide) dX8_person_1 ?_ ?_
    · refine zr_iload_n hB 2 rfl rfl dX8_person_11 ?_
      refine zr_iconst (v := 1) hB (by decide) dX8_person_12 ?_
      refine zr_icmp_ne (tgt := 32) hB (by decide) dX8_person_13 ?_ ?_
      · refine zr_iconst (v := 0) hB (by decide) dX8_person_32 ?_
        exact zr_sub [0, 1, 2, 3] rfl (hj2 0)
      · refine zr_iload_n hB 3 rfl rfl dX8_person_16 ?_
        refine zr_i2l hB dX8_person_17 ?_
        refine zr_lconst (v := 0) hB (by decide) dX8_person_18 ?_
        refine zr_ldc2 (v := 60) hB lj_X8_97 dX8_person_19 ?_
        refine zr_callS (st := []) (As := [.long a3.toInt64, .long 0, .long 60]) (embc := em_i0 I L) hB (mX8_within (sK := sK) (sV := sV) hi a3.toInt64 0 60 I L) lm_X8_54 q2_X8_within q4_X8 q5_X8_within qd_X8_within (by decide) rfl rfl (Nat.le_of_ble_eq_true rfl) ⟨Nat.zero_le _, Nat.zero_le _⟩ dX8_person_22 (zr_ki0 (fun o6 => ?_))
        refine zr_ifeq (tgt := 32) hB (by decide) dX8_person_25 ?_ ?_
        · refine zr_iconst (v := 0) hB (by decide) dX8_person_32 ?_
          exact zr_sub [0, 1, 2, 3] rfl (hj2 0)
        · refine zr_iconst (v := 1) hB (by decide) dX8_person_28 ?_
          refine zr_goto (tgt := 33) hB (by decide) dX8_person_29 ?_
          exact zr_sub [0, 1, 2, 3] rfl (hj2 1)
    · refine zr_iload_n hB 3 rfl rfl dX8_person_4 ?_
      refine zr_callS (st := []) (As := [.int a3]) (embc := em_i0 I L) hB (mX8_isPlace (sK := sK) (sV := sV) hi a3 I L) lm_X8_99 q2_X8_isPlace q4_X8 q5_X8_isPlace qd_X8_isPlace (by decide) rfl rfl (Nat.le_of_ble_eq_true rfl) ⟨Nat.zero_le _, Nat.zero_le _⟩ dX8_person_5 (zr_ki0 (fun o8 => ?_))
      refine zr_goto (tgt := 33) hB (by decide) dX8_person_8 ?_
      exact zr_sub [0, 1, 2, 3] rfl (hj2 o8)

def fX8_tell (a1 : Int32) (a2 : Int32) (I : zI) : Option (Int32 × zI) :=
  zb (fX8_isOne a1 I) fun o2 =>
  if o2 = 0 then
    zb (fX8_finding 0 I) fun o5 =>
    some (o5.1, o5.2)
  else
  zb (fX8_within a2.toInt64 0 1) fun o7 =>
  if o7 = 0 then
    zb (fX8_finding 0 I) fun o10 =>
    some (o10.1, o10.2)
  else
  zg ((52 + (4 * a2)) + a1) 120 (
  some (I 51 (zn ((52 + (4 * a2)) + a1)), I))
set_option maxHeartbeats 4000000 in
set_option maxRecDepth 100000 in
theorem mX8_tell {l : Launch} {D : va_G} {T : zT} {ad sK sV : Nat → Nat} (hi : zInj ad) (a1 : Int32) (a2 : Int32)  (I : zI) (L : zL) : ∀ o, fX8_tell a1 a2 I = some o → zMet l yX8_tell cX8_tell 3 (some .int) 2 46 D T ad sK sV [.ref (ad 50), .int a1, .int a2] I L (em_iI L o) := by
  intro o ho
  refine zMet.of hi (by decide +kernel) (Nat.le_of_ble_eq_true rfl) (fun p e s m args below meth c hB => ?_)
  refine zr_top (emb := em_iI L) (t := fX8_tell a1 a2 I) ?_ ho
  unfold fX8_tell
  refine zr_aload_n hB 0 rfl rfl dX8_tell_0 ?_
  refine zr_iload_n hB 1 rfl rfl dX8_tell_1 ?_
  refine zr_callV (st := []) (C := RX8) (As := [.int a1]) (embc := em_i0 I L) hB (mX8_isOne (sK := sK) (sV := sV) hi a1 I L) (zW_X8 rfl) rfl rfl lm_X8_106 q2_X8_isOne q3_X8_isOne q4_X8 q5_X8_isOne qd_X8_isOne (by decide) rfl rfl (Nat.le_of_ble_eq_true rfl) ⟨Nat.zero_le _, Nat.zero_le _⟩ dX8_tell_2 (zr_ki0 (fun o2 => ?_))
  refine zr_ifeq (tgt := 34) hB (by decide) dX8_tell_5 ?_ ?_
  · refine zr_aload_n hB 0 rfl rfl dX8_tell_34 ?_
    refine zr_iconst (v := 0) hB (by decide) dX8_tell_35 ?_
    refine zr_callV (st := []) (C := RX8) (As := [.int 0]) (embc := em_iI L) hB (mX8_finding (sK := sK) (sV := sV) hi 0 I L) (zW_X8 rfl) rfl rfl lm_X8_74 q2_X8_finding q3_X8_finding q4_X8 q5_X8_finding qd_X8_finding (by decide) rfl rfl (Nat.le_of_ble_eq_true rfl) ⟨Nat.zero_le _, Nat.zero_le _⟩ dX8_tell_36 (zr_kiI (fun o5 => ?_))
    exact zr_iret hB rfl rfl dX8_tell_39
  · refine zr_iload_n hB 2 rfl rfl dX8_tell_8 ?_
    refine zr_i2l hB dX8_tell_9 ?_
    refine zr_lconst (v := 0) hB (by decide) dX8_tell_10 ?_
    refine zr_lconst (v := 1) hB (by decide) dX8_tell_11 ?_
    refine zr_callS (st := []) (As := [.long a2.toInt64, .long 0, .long 1]) (embc := em_i0 I L) hB (mX8_within (sK := sK) (sV := sV) hi a2.toInt64 0 1 I L) lm_X8_54 q2_X8_within q4_X8 q5_X8_within qd_X8_within (by decide) rfl rfl (Nat.le_of_ble_eq_true rfl) ⟨Nat.zero_le _, Nat.zero_le _⟩ dX8_tell_12 (zr_ki0 (fun o7 => ?_))
    refine zr_ifeq (tgt := 34) hB (by decide) dX8_tell_15 ?_ ?_
    · refine zr_aload_n hB 0 rfl rfl dX8_tell_34 ?_
      refine zr_iconst (v := 0) hB (by decide) dX8_tell_35 ?_
      refine zr_callV (st := []) (C := RX8) (As := [.int 0]) (embc := em_iI L) hB (mX8_finding (sK := sK) (sV := sV) hi 0 I L) (zW_X8 rfl) rfl rfl lm_X8_74 q2_X8_finding q3_X8_finding q4_X8 q5_X8_finding qd_X8_finding (by decide) rfl rfl (Nat.le_of_ble_eq_true rfl) ⟨Nat.zero_le _, Nat.zero_le _⟩ dX8_tell_36 (zr_kiI (fun o10 => ?_))
      exact zr_iret hB rfl rfl dX8_tell_39
    · refine zr_aload_n hB 0 rfl rfl dX8_tell_18 ?_
      refine zr_get_X8 (w := 50) (k := 0) (v := .ref (ad 51)) hB rfl (by decide) rfl lf_X8_9 rfl dX8_tell_19 ?_
      refine zr_bipush (v := 52) hB (by decide) dX8_tell_22 ?_
      refine zr_iconst (v := 4) hB (by decide) dX8_tell_24 ?_
      refine zr_iload_n hB 2 rfl rfl dX8_tell_25 ?_
      refine zr_imul hB dX8_tell_26 ?_
      refine zr_iadd hB dX8_tell_27 ?_
      refine zr_iload_n hB 1 rfl rfl dX8_tell_28 ?_
      refine zr_iadd hB dX8_tell_29 ?_
      refine zr_iaload hB zA_51 dX8_tell_30 ?_
      refine zr_goto (tgt := 39) hB (by decide) dX8_tell_31 ?_
      exact zr_iret hB rfl rfl dX8_tell_39

def gX8_lie_17 (a1 : Int32) (I : zI) (s3 : Int32 × Int32) : Option ((Int32 × Int32) ⊕ (Int32)) :=
  zg 11 120 (
  if (I 51 (zn 11)) ≤ s3.2 then
    some (.inr s3.1)
  else
  zg (36 + s3.2) 120 (
  if (I 51 (zn (36 + s3.2))) = a1 then
    zl (s3.1 ||| (zshl 1 s3.2)) fun v14 =>
    zl (s3.2 + 1) fun v15 =>
    some (.inl (v14, v15))
  else
  zl (s3.1 ||| 0) fun v12 =>
  zl (s3.2 + 1) fun v13 =>
  some (.inl (v12, v13))))
def fX8_lie (n : Nat) (a1 : Int32) (I : zI) : Option (Int32 × zI) :=
  zb (fX8_isRoom a1) fun o2 =>
  if o2 = 0 then
    zb (fX8_finding 0 I) fun o18 =>
    some (o18.1, o18.2)
  else
  zb (zit (gX8_lie_17 a1 I) n (0, 0)) fun x4 : Int32 =>
  some (x4, I)
set_option maxHeartbeats 4000000 in
set_option maxRecDepth 100000 in
theorem mX8_lie {l : Launch} {D : va_G} {T : zT} {ad sK sV : Nat → Nat} (hi : zInj ad) (n : Nat) (a1 : Int32)  (I : zI) (L : zL) : ∀ o, fX8_lie n a1 I = some o → zMet l yX8_lie cX8_lie 4 (some .int) 2 45 D T ad sK sV [.ref (ad 50), .int a1] I L (em_iI L o) := by
  intro o ho
  refine zMet.of hi (by decide +kernel) (Nat.le_of_ble_eq_true rfl) (fun p e s m args below meth c hB => ?_)
  refine zr_top (emb := em_iI L) (t := fX8_lie n a1 I) ?_ ho
  unfold fX8_lie
  refine zr_iload_n hB 1 rfl rfl dX8_lie_0 ?_
  refine zr_callS (st := []) (As := [.int a1]) (embc := em_i0 I L) hB (mX8_isRoom (sK := sK) (sV := sV) hi a1 I L) lm_X8_70 q2_X8_isRoom q4_X8 q5_X8_isRoom qd_X8_isRoom (by decide) rfl rfl (Nat.le_of_ble_eq_true rfl) ⟨Nat.zero_le _, Nat.zero_le _⟩ dX8_lie_1 (zr_ki0 (fun o2 => ?_))
  refine zr_ifne (tgt := 13) hB (by decide) dX8_lie_4 ?_ ?_
  · refine zr_iconst (v := 0) hB (by decide) dX8_lie_13 ?_
    refine zr_istore_n (lv' := [(2, .int 0), (0, .ref (ad 50)), (1, .int a1)]) hB rfl (by decide) rfl dX8_lie_14 ?_
    refine zr_iconst (v := 0) hB (by decide) dX8_lie_15 ?_
    refine zr_istore_n (lv' := [(3, .int 0), (2, .int 0), (0, .ref (ad 50)), (1, .int a1)]) hB rfl (by decide) rfl dX8_lie_16 ?_
    refine zr_join (pcJ := 57) (fun x4 : Int32 => [(2, .int x4)]) (fun _ => []) (fun x4 => I) (fun x4 => L) (fun x4 => ?_) (fun K10 hx9 => ?_)
    · refine zr_iload_n hB 0 rfl rfl dX8_lie_57 ?_
      exact zr_iret hB rfl rfl dX8_lie_58
    · refine zr_sub (lv' := (fun s3 : Int32 × Int32 => [(2, .int s3.1), (3, .int s3.2), (0, .ref (ad 50)), (1, .int a1)]) (0, 0)) [1, 0, 2, 3] rfl (zr_loop (fun s3 : Int32 × Int32 => [(2, .int s3.1), (3, .int s3.2), (0, .ref (ad 50)), (1, .int a1)]) (fun s3 => I) (fun s3 => L) (fun x4 : Int32 => [(2, .int x4)]) (fun x4 => I) (fun x4 => L) hx9 (fun s3 K11 hc5 hx6 => ?_) n (0, 0))
      unfold gX8_lie_17
      refine zr_iload_n hB 1 rfl rfl dX8_lie_17 ?_
      refine zr_aload_n hB 2 rfl rfl dX8_lie_18 ?_
      refine zr_get_X8 (w := 50) (k := 0) (v := .ref (ad 51)) hB rfl (by decide) rfl lf_X8_9 rfl dX8_lie_19 ?_
      refine zr_bipush (v := 11) hB (by decide) dX8_lie_22 ?_
      refine zr_iaload hB zA_51 dX8_lie_24 ?_
      refine zr_icmp_ge (tgt := 57) hB (by decide) dX8_lie_25 ?_ ?_
      · exact zr_sub [0] rfl (hx6 s3.1)
      · refine zr_iload_n hB 0 rfl rfl dX8_lie_28 ?_
        refine zr_aload_n hB 2 rfl rfl dX8_lie_29 ?_
        refine zr_get_X8 (w := 50) (k := 0) (v := .ref (ad 51)) hB rfl (by decide) rfl lf_X8_9 rfl dX8_lie_30 ?_
        refine zr_bipush (v := 36) hB (by decide) dX8_lie_33 ?_
        refine zr_iload_n hB 1 rfl rfl dX8_lie_35 ?_
        refine zr_iadd hB dX8_lie_36 ?_
        refine zr_iaload hB zA_51 dX8_lie_37 ?_
        refine zr_iload_n hB 3 rfl rfl dX8_lie_38 ?_
        refine zr_icmp_ne (tgt := 48) hB (by decide) dX8_lie_39 ?_ ?_
        · refine zr_iconst (v := 0) hB (by decide) dX8_lie_48 ?_
          refine zr_ior hB dX8_lie_49 ?_
          refine zr_letI (fun v12 => ?_)
          refine zr_istore_n (lv' := [(2, .int v12), (3, .int s3.2), (0, .ref (ad 50)), (1, .int a1)]) hB rfl (by decide) rfl dX8_lie_50 ?_
          refine zr_iincL hB (j := 1) (n := 1) (w := 1) rfl (by decide) (by decide) dX8_lie_51 (fun v13 lv' hlv => ?_)
          obtain rfl : lv' = [(3, .int v13), (2, .int v12), (0, .ref (ad 50)), (1, .int a1)] := hlv.symm.trans rfl
          refine zr_goto (tgt := 17) hB (by decide) dX8_lie_54 ?_
          exact zr_sub [1, 0, 2, 3] rfl (hc5 (v12, v13))
        · refine zr_iconst (v := 1) hB (by decide) dX8_lie_42 ?_
          refine zr_iload_n hB 1 rfl rfl dX8_lie_43 ?_
          refine zr_ishl hB dX8_lie_44 ?_
          refine zr_goto (tgt := 49) hB (by decide) dX8_lie_45 ?_
          refine zr_ior hB dX8_lie_49 ?_
          refine zr_letI (fun v14 => ?_)
          refine zr_istore_n (lv' := [(2, .int v14), (3, .int s3.2), (0, .ref (ad 50)), (1, .int a1)]) hB rfl (by decide) rfl dX8_lie_50 ?_
          refine zr_iincL hB (j := 1) (n := 1) (w := 1) rfl (by decide) (by decide) dX8_lie_51 (fun v15 lv' hlv => ?_)
          obtain rfl : lv' = [(3, .int v15), (2, .int v14), (0, .ref (ad 50)), (1, .int a1)] := hlv.symm.trans rfl
          refine zr_goto (tgt := 17) hB (by decide) dX8_lie_54 ?_
          exact zr_sub [1, 0, 2, 3] rfl (hc5 (v14, v15))
  · refine zr_aload_n hB 0 rfl rfl dX8_lie_7 ?_
    refine zr_iconst (v := 0) hB (by decide) dX8_lie_8 ?_
    refine zr_callV (st := []) (C := RX8) (As := [.int 0]) (embc := em_iI L) hB (mX8_finding (sK := sK) (sV := sV) hi 0 I L) (zW_X8 rfl) rfl rfl lm_X8_74 q2_X8_finding q3_X8_finding q4_X8 q5_X8_finding qd_X8_finding (by decide) rfl rfl (Nat.le_of_ble_eq_true rfl) ⟨Nat.zero_le _, Nat.zero_le _⟩ dX8_lie_9 (zr_kiI (fun o18 => ?_))
    exact zr_iret hB rfl rfl dX8_lie_12

def fX8_canWalk (a1 : Int32) (a2 : Int32) (I : zI) : Option (Int32) :=
  zb (fX8_roomOf a1 I) fun o2 =>
  zb (fX8_isOpen o2 a2 I) fun o4 =>
  zgb o4 (
  some o4)
set_option maxHeartbeats 4000000 in
set_option maxRecDepth 100000 in
theorem mX8_canWalk {l : Launch} {D : va_G} {T : zT} {ad sK sV : Nat → Nat} (hi : zInj ad) (a1 : Int32) (a2 : Int32)  (I : zI) (L : zL) : ∀ o, fX8_canWalk a1 a2 I = some o → zMet l yX8_canWalk cX8_canWalk 3 (some .boolean) 1 22 D T ad sK sV [.ref (ad 50), .int a1, .int a2] I L (em_i0 I L o) := by
  intro o ho
  refine zMet.of hi (by decide +kernel) (Nat.le_of_ble_eq_true rfl) (fun p e s m args below meth c hB => ?_)
  refine zr_top (emb := em_i0 I L) (t := fX8_canWalk a1 a2 I) ?_ ho
  unfold fX8_canWalk
  refine zr_aload_n hB 0 rfl rfl dX8_canWalk_0 ?_
  refine zr_aload_n hB 0 rfl rfl dX8_canWalk_1 ?_
  refine zr_iload_n hB 1 rfl rfl dX8_canWalk_2 ?_
  refine zr_callV (st := [.ref (ad 50)]) (C := RX8) (As := [.int a1]) (embc := em_i0 I L) hB (mX8_roomOf (sK := sK) (sV := sV) hi a1 I L) (zW_X8 rfl) rfl rfl lm_X8_109 q2_X8_roomOf q3_X8_roomOf q4_X8 q5_X8_roomOf qd_X8_roomOf (by decide) rfl rfl (Nat.le_of_ble_eq_true rfl) ⟨Nat.zero_le _, Nat.zero_le _⟩ dX8_canWalk_3 (zr_ki0 (fun o2 => ?_))
  refine zr_iload_n hB 2 rfl rfl dX8_canWalk_6 ?_
  refine zr_callV (st := []) (C := RX8) (As := [.int o2, .int a2]) (embc := em_i0 I L) hB (mX8_isOpen (sK := sK) (sV := sV) hi o2 a2 I L) (zW_X8 rfl) rfl rfl lm_X8_77 q2_X8_isOpen q3_X8_isOpen q4_X8 q5_X8_isOpen qd_X8_isOpen (by decide) rfl rfl (Nat.le_of_ble_eq_true rfl) ⟨Nat.zero_le _, Nat.zero_le _⟩ dX8_canWalk_7 (zr_ki0 (fun o4 => ?_))
  refine zr_gb (fun hv => ?_)
  exact zr_zretC hv hB rfl rfl dX8_canWalk_10

def fX8_goes (a1 : Int32) (a2 : Int32) (a3 : Int32) (I : zI) : Option (zI) :=
  zg (52 + a1) 120 (
  zl (zup I 51 (zn (52 + a1)) ((8 * a2) + a3)) fun J1 =>
  some J1)
set_option maxHeartbeats 4000000 in
set_option maxRecDepth 100000 in
theorem mX8_goes {l : Launch} {D : va_G} {T : zT} {ad sK sV : Nat → Nat} (hi : zInj ad) (a1 : Int32) (a2 : Int32) (a3 : Int32)  (I : zI) (L : zL) : ∀ o, fX8_goes a1 a2 a3 I = some o → zMet l yX8_goes cX8_goes 4 none 0 0 D T ad sK sV [.ref (ad 50), .int a1, .int a2, .int a3] I L (em_vI L o) := by
  intro o ho
  refine zMet.of hi (by decide +kernel) (Nat.le_of_ble_eq_true rfl) (fun p e s m args below meth c hB => ?_)
  refine zr_top (emb := em_vI L) (t := fX8_goes a1 a2 a3 I) ?_ ho
  unfold fX8_goes
  refine zr_aload_n hB 0 rfl rfl dX8_goes_0 ?_
  refine zr_get_X8 (w := 50) (k := 0) (v := .ref (ad 51)) hB rfl (by decide) rfl lf_X8_9 rfl dX8_goes_1 ?_
  refine zr_bipush (v := 52) hB (by decide) dX8_goes_4 ?_
  refine zr_iload_n hB 1 rfl rfl dX8_goes_6 ?_
  refine zr_iadd hB dX8_goes_7 ?_
  refine zr_bipush (v := 8) hB (by decide) dX8_goes_8 ?_
  refine zr_iload_n hB 2 rfl rfl dX8_goes_10 ?_
  refine zr_imul hB dX8_goes_11 ?_
  refine zr_iload_n hB 3 rfl rfl dX8_goes_12 ?_
  refine zr_iadd hB dX8_goes_13 ?_
  refine zr_iastore hB zA_51 dX8_goes_14 ?_
  refine zr_letM (fun J1 => ?_)
  exact zr_vret hB rfl rfl dX8_goes_15

def fX8_walk (a1 : Int32) (a2 : Int32) (I : zI) : Option (Int32 × zI) :=
  zb (fX8_isOne a1 I) fun o2 =>
  if o2 = 0 then
    zb (fX8_finding 0 I) fun o5 =>
    some (o5.1, o5.2)
  else
  zb (fX8_isRoom a2) fun o7 =>
  if o7 = 0 then
    zb (fX8_finding 0 I) fun o20 =>
    some (o20.1, o20.2)
  else
  zb (fX8_canWalk a1 a2 I) fun o9 =>
  if o9 = 0 then
    zb (fX8_finding 4 I) fun o17 =>
    some (o17.1, o17.2)
  else
  zb (fX8_levelOf a1 I) fun o11 =>
  zb (fX8_goes a1 o11 a2 I) fun o14 =>
  zg (52 + a1) 120 (
  some (o14 51 (zn (52 + a1)), o14))
set_option maxHeartbeats 4000000 in
set_option maxRecDepth 100000 in
theorem mX8_walk {l : Launch} {D : va_G} {T : zT} {ad sK sV : Nat → Nat} (hi : zInj ad) (a1 : Int32) (a2 : Int32)  (I : zI) (L : zL) : ∀ o, fX8_walk a1 a2 I = some o → zMet l yX8_walk cX8_walk 3 (some .int) 2 46 D T ad sK sV [.ref (ad 50), .int a1, .int a2] I L (em_iI L o) := by
  intro o ho
  refine zMet.of hi (by decide +kernel) (Nat.le_of_ble_eq_true rfl) (fun p e s m args below meth c hB => ?_)
  refine zr_top (emb := em_iI L) (t := fX8_walk a1 a2 I) ?_ ho
  unfold fX8_walk
  refine zr_aload_n hB 0 rfl rfl dX8_walk_0 ?_
  refine zr_iload_n hB 1 rfl rfl dX8_walk_1 ?_
  refine zr_callV (st := []) (C := RX8) (As := [.int a1]) (embc := em_i0 I L) hB (mX8_isOne (sK := sK) (sV := sV) hi a1 I L) (zW_X8 rfl) rfl rfl lm_X8_106 q2_X8_isOne q3_X8_isOne q4_X8 q5_X8_isOne qd_X8_isOne (by decide) rfl rfl (Nat.le_of_ble_eq_true rfl) ⟨Nat.zero_le _, Nat.zero_le _⟩ dX8_walk_2 (zr_ki0 (fun o2 => ?_))
  refine zr_ifeq (tgt := 15) hB (by decide) dX8_walk_5 ?_ ?_
  · refine zr_aload_n hB 0 rfl rfl dX8_walk_15 ?_
    refine zr_iconst (v := 0) hB (by decide) dX8_walk_16 ?_
    refine zr_callV (st := []) (C := RX8) (As := [.int 0]) (embc := em_iI L) hB (mX8_finding (sK := sK) (sV := sV) hi 0 I L) (zW_X8 rfl) rfl rfl lm_X8_74 q2_X8_finding q3_X8_finding q4_X8 q5_X8_finding qd_X8_finding (by decide) rfl rfl (Nat.le_of_ble_eq_true rfl) ⟨Nat.zero_le _, Nat.zero_le _⟩ dX8_walk_17 (zr_kiI (fun o5 => ?_))
    exact zr_iret hB rfl rfl dX8_walk_20
  · refine zr_iload_n hB 2 rfl rfl dX8_walk_8 ?_
    refine zr_callS (st := []) (As := [.int a2]) (embc := em_i0 I L) hB (mX8_isRoom (sK := sK) (sV := sV) hi a2 I L) lm_X8_70 q2_X8_isRoom q4_X8 q5_X8_isRoom qd_X8_isRoom (by decide) rfl rfl (Nat.le_of_ble_eq_true rfl) ⟨Nat.zero_le _, Nat.zero_le _⟩ dX8_walk_9 (zr_ki0 (fun o7 => ?_))
    refine zr_ifne (tgt := 21) hB (by decide) dX8_walk_12 ?_ ?_
    · refine zr_aload_n hB 0 rfl rfl dX8_walk_21 ?_
      refine zr_iload_n hB 1 rfl rfl dX8_walk_22 ?_
      refine zr_iload_n hB 2 rfl rfl dX8_walk_23 ?_
      refine zr_callV (st := []) (C := RX8) (As := [.int a1, .int a2]) (embc := em_i0 I L) hB (mX8_canWalk (sK := sK) (sV := sV) hi a1 a2 I L) (zW_X8 rfl) rfl rfl lm_X8_112 q2_X8_canWalk q3_X8_canWalk q4_X8 q5_X8_canWalk qd_X8_canWalk (by decide) rfl rfl (Nat.le_of_ble_eq_true rfl) ⟨Nat.zero_le _, Nat.zero_le _⟩ dX8_walk_24 (zr_ki0 (fun o9 => ?_))
      refine zr_ifne (tgt := 36) hB (by decide) dX8_walk_27 ?_ ?_
      · refine zr_aload_n hB 0 rfl rfl dX8_walk_36 ?_
        refine zr_iload_n hB 1 rfl rfl dX8_walk_37 ?_
        refine zr_aload_n hB 0 rfl rfl dX8_walk_38 ?_
        refine zr_iload_n hB 1 rfl rfl dX8_walk_39 ?_
        refine zr_callV (st := [.int a1, .ref (ad 50)]) (C := RX8) (As := [.int a1]) (embc := em_i0 I L) hB (mX8_levelOf (sK := sK) (sV := sV) hi a1 I L) (zW_X8 rfl) rfl rfl lm_X8_115 q2_X8_levelOf q3_X8_levelOf q4_X8 q5_X8_levelOf qd_X8_levelOf (by decide) rfl rfl (Nat.le_of_ble_eq_true rfl) ⟨Nat.zero_le _, Nat.zero_le _⟩ dX8_walk_40 (zr_ki0 (fun o11 => ?_))
        refine zr_iload_n hB 2 rfl rfl dX8_walk_43 ?_
        refine zr_callV (st := []) (C := RX8) (As := [.int a1, .int o11, .int a2]) (embc := em_vI L) hB (mX8_goes (sK := sK) (sV := sV) hi a1 o11 a2 I L) (zW_X8 rfl) rfl rfl lm_X8_118 q2_X8_goes q3_X8_goes q4_X8 q5_X8_goes qd_X8_goes (by decide) rfl rfl (Nat.le_of_ble_eq_true rfl) ⟨Nat.zero_le _, Nat.zero_le _⟩ dX8_walk_44 (zr_kvI (fun o14 => ?_))
        refine zr_aload_n hB 0 rfl rfl dX8_walk_47 ?_
        refine zr_get_X8 (w := 50) (k := 0) (v := .ref (ad 51)) hB rfl (by decide) rfl lf_X8_9 rfl dX8_walk_48 ?_
        refine zr_bipush (v := 52) hB (by decide) dX8_walk_51 ?_
        refine zr_iload_n hB 1 rfl rfl dX8_walk_53 ?_
        refine zr_iadd hB dX8_walk_54 ?_
        refine zr_iaload hB zA_51 dX8_walk_55 ?_
        exact zr_iret hB rfl rfl dX8_walk_56
      · refine zr_aload_n hB 0 rfl rfl dX8_walk_30 ?_
        refine zr_iconst (v := 4) hB (by decide) dX8_walk_31 ?_
        refine zr_callV (st := []) (C := RX8) (As := [.int 4]) (embc := em_iI L) hB (mX8_finding (sK := sK) (sV := sV) hi 4 I L) (zW_X8 rfl) rfl rfl lm_X8_74 q2_X8_finding q3_X8_finding q4_X8 q5_X8_finding qd_X8_finding (by decide) rfl rfl (Nat.le_of_ble_eq_true rfl) ⟨Nat.zero_le _, Nat.zero_le _⟩ dX8_walk_32 (zr_kiI (fun o17 => ?_))
        exact zr_iret hB rfl rfl dX8_walk_35
    · refine zr_aload_n hB 0 rfl rfl dX8_walk_15 ?_
      refine zr_iconst (v := 0) hB (by decide) dX8_walk_16 ?_
      refine zr_callV (st := []) (C := RX8) (As := [.int 0]) (embc := em_iI L) hB (mX8_finding (sK := sK) (sV := sV) hi 0 I L) (zW_X8 rfl) rfl rfl lm_X8_74 q2_X8_finding q3_X8_finding q4_X8 q5_X8_finding qd_X8_finding (by decide) rfl rfl (Nat.le_of_ble_eq_true rfl) ⟨Nat.zero_le _, Nat.zero_le _⟩ dX8_walk_17 (zr_kiI (fun o20 => ?_))
      exact zr_iret hB rfl rfl dX8_walk_20

def fX8_isBefore (a1 : Int32) (I : zI) : Option (Int32) :=
  zb (fX8_roomOf a1 I) fun o2 =>
  zg 8 120 (
  if o2 = (I 51 (zn 8)) then
    zb (fX8_levelOf a1 I) fun o4 =>
    if 4 ≤ o4 then
      some 0
    else
    some 1
  else
  some 0)
set_option maxHeartbeats 4000000 in
set_option maxRecDepth 100000 in
theorem mX8_isBefore {l : Launch} {D : va_G} {T : zT} {ad sK sV : Nat → Nat} (hi : zInj ad) (a1 : Int32)  (I : zI) (L : zL) : ∀ o, fX8_isBefore a1 I = some o → zMet l yX8_isBefore cX8_isBefore 2 (some .boolean) 1 21 D T ad sK sV [.ref (ad 50), .int a1] I L (em_i0 I L o) := by
  intro o ho
  refine zMet.of hi (by decide +kernel) (Nat.le_of_ble_eq_true rfl) (fun p e s m args below meth c hB => ?_)
  refine zr_top (emb := em_i0 I L) (t := fX8_isBefore a1 I) ?_ ho
  unfold fX8_isBefore
  refine zr_aload_n hB 0 rfl rfl dX8_isBefore_0 ?_
  refine zr_iload_n hB 1 rfl rfl dX8_isBefore_1 ?_
  refine zr_callV (st := []) (C := RX8) (As := [.int a1]) (embc := em_i0 I L) hB (mX8_roomOf (sK := sK) (sV := sV) hi a1 I L) (zW_X8 rfl) rfl rfl lm_X8_109 q2_X8_roomOf q3_X8_roomOf q4_X8 q5_X8_roomOf qd_X8_roomOf (by decide) rfl rfl (Nat.le_of_ble_eq_true rfl) ⟨Nat.zero_le _, Nat.zero_le _⟩ dX8_isBefore_2 (zr_ki0 (fun o2 => ?_))
  refine zr_aload_n hB 0 rfl rfl dX8_isBefore_5 ?_
  refine zr_get_X8 (w := 50) (k := 0) (v := .ref (ad 51)) hB rfl (by decide) rfl lf_X8_9 rfl dX8_isBefore_6 ?_
  refine zr_bipush (v := 8) hB (by decide) dX8_isBefore_9 ?_
  refine zr_iaload hB zA_51 dX8_isBefore_11 ?_
  refine zr_icmp_ne (tgt := 28) hB (by decide) dX8_isBefore_12 ?_ ?_
  · refine zr_iconst (v := 0) hB (by decide) dX8_isBefore_28 ?_
    exact zr_zretC (by decide) hB rfl rfl dX8_isBefore_29
  · refine zr_aload_n hB 0 rfl rfl dX8_isBefore_15 ?_
    refine zr_iload_n hB 1 rfl rfl dX8_isBefore_16 ?_
    refine zr_callV (st := []) (C := RX8) (As := [.int a1]) (embc := em_i0 I L) hB (mX8_levelOf (sK := sK) (sV := sV) hi a1 I L) (zW_X8 rfl) rfl rfl lm_X8_115 q2_X8_levelOf q3_X8_levelOf q4_X8 q5_X8_levelOf qd_X8_levelOf (by decide) rfl rfl (Nat.le_of_ble_eq_true rfl) ⟨Nat.zero_le _, Nat.zero_le _⟩ dX8_isBefore_17 (zr_ki0 (fun o4 => ?_))
    refine zr_iconst (v := 4) hB (by decide) dX8_isBefore_20 ?_
    refine zr_icmp_ge (tgt := 28) hB (by decide) dX8_isBefore_21 ?_ ?_
    · refine zr_iconst (v := 0) hB (by decide) dX8_isBefore_28 ?_
      exact zr_zretC (by decide) hB rfl rfl dX8_isBefore_29
    · refine zr_iconst (v := 1) hB (by decide) dX8_isBefore_24 ?_
      refine zr_goto (tgt := 29) hB (by decide) dX8_isBefore_25 ?_
      exact zr_zretC (by decide) hB rfl rfl dX8_isBefore_29

def fX8_in (a1 : Int32) (I : zI) : Option (Int32 × zI) :=
  zb (fX8_isOne a1 I) fun o2 =>
  if o2 = 0 then
    zb (fX8_finding 0 I) fun o15 =>
    some (o15.1, o15.2)
  else
  zb (fX8_isBefore a1 I) fun o4 =>
  if o4 = 0 then
    zb (fX8_finding 4 I) fun o12 =>
    some (o12.1, o12.2)
  else
  zb (fX8_levelOf a1 I) fun o6 =>
  zg 9 120 (
  zb (fX8_goes a1 (o6 + 1) (I 51 (zn 9)) I) fun o9 =>
  zg (52 + a1) 120 (
  some (o9 51 (zn (52 + a1)), o9)))
set_option maxHeartbeats 4000000 in
set_option maxRecDepth 100000 in
theorem mX8_in {l : Launch} {D : va_G} {T : zT} {ad sK sV : Nat → Nat} (hi : zInj ad) (a1 : Int32)  (I : zI) (L : zL) : ∀ o, fX8_in a1 I = some o → zMet l yX8_in cX8_in 2 (some .int) 2 46 D T ad sK sV [.ref (ad 50), .int a1] I L (em_iI L o) := by
  intro o ho
  refine zMet.of hi (by decide +kernel) (Nat.le_of_ble_eq_true rfl) (fun p e s m args below meth c hB => ?_)
  refine zr_top (emb := em_iI L) (t := fX8_in a1 I) ?_ ho
  unfold fX8_in
  refine zr_aload_n hB 0 rfl rfl dX8_in_0 ?_
  refine zr_iload_n hB 1 rfl rfl dX8_in_1 ?_
  refine zr_callV (st := []) (C := RX8) (As := [.int a1]) (embc := em_i0 I L) hB (mX8_isOne (sK := sK) (sV := sV) hi a1 I L) (zW_X8 rfl) rfl rfl lm_X8_106 q2_X8_isOne q3_X8_isOne q4_X8 q5_X8_isOne qd_X8_isOne (by decide) rfl rfl (Nat.le_of_ble_eq_true rfl) ⟨Nat.zero_le _, Nat.zero_le _⟩ dX8_in_2 (zr_ki0 (fun o2 => ?_))
  refine zr_ifne (tgt := 14) hB (by decide) dX8_in_5 ?_ ?_
  · refine zr_aload_n hB 0 rfl rfl dX8_in_14 ?_
    refine zr_iload_n hB 1 rfl rfl dX8_in_15 ?_
    refine zr_callV (st := []) (C := RX8) (As := [.int a1]) (embc := em_i0 I L) hB (mX8_isBefore (sK := sK) (sV := sV) hi a1 I L) (zW_X8 rfl) rfl rfl lm_X8_121 q2_X8_isBefore q3_X8_isBefore q4_X8 q5_X8_isBefore qd_X8_isBefore (by decide) rfl rfl (Nat.le_of_ble_eq_true rfl) ⟨Nat.zero_le _, Nat.zero_le _⟩ dX8_in_16 (zr_ki0 (fun o4 => ?_))
    refine zr_ifne (tgt := 28) hB (by decide) dX8_in_19 ?_ ?_
    · refine zr_aload_n hB 0 rfl rfl dX8_in_28 ?_
      refine zr_iload_n hB 1 rfl rfl dX8_in_29 ?_
      refine zr_aload_n hB 0 rfl rfl dX8_in_30 ?_
      refine zr_iload_n hB 1 rfl rfl dX8_in_31 ?_
      refine zr_callV (st := [.int a1, .ref (ad 50)]) (C := RX8) (As := [.int a1]) (embc := em_i0 I L) hB (mX8_levelOf (sK := sK) (sV := sV) hi a1 I L) (zW_X8 rfl) rfl rfl lm_X8_115 q2_X8_levelOf q3_X8_levelOf q4_X8 q5_X8_levelOf qd_X8_levelOf (by decide) rfl rfl (Nat.le_of_ble_eq_true rfl) ⟨Nat.zero_le _, Nat.zero_le _⟩ dX8_in_32 (zr_ki0 (fun o6 => ?_))
      refine zr_iconst (v := 1) hB (by decide) dX8_in_35 ?_
      refine zr_iadd hB dX8_in_36 ?_
      refine zr_aload_n hB 0 rfl rfl dX8_in_37 ?_
      refine zr_get_X8 (w := 50) (k := 0) (v := .ref (ad 51)) hB rfl (by decide) rfl lf_X8_9 rfl dX8_in_38 ?_
      refine zr_bipush (v := 9) hB (by decide) dX8_in_41 ?_
      refine zr_iaload hB zA_51 dX8_in_43 ?_
      refine zr_callV (st := []) (C := RX8) (As := [.int a1, .int (o6 + 1), .int (I 51 (zn 9))]) (embc := em_vI L) hB (mX8_goes (sK := sK) (sV := sV) hi a1 (o6 + 1) (I 51 (zn 9)) I L) (zW_X8 rfl) rfl rfl lm_X8_118 q2_X8_goes q3_X8_goes q4_X8 q5_X8_goes qd_X8_goes (by decide) rfl rfl (Nat.le_of_ble_eq_true rfl) ⟨Nat.zero_le _, Nat.zero_le _⟩ dX8_in_44 (zr_kvI (fun o9 => ?_))
      refine zr_aload_n hB 0 rfl rfl dX8_in_47 ?_
      refine zr_get_X8 (w := 50) (k := 0) (v := .ref (ad 51)) hB rfl (by decide) rfl lf_X8_9 rfl dX8_in_48 ?_
      refine zr_bipush (v := 52) hB (by decide) dX8_in_51 ?_
      refine zr_iload_n hB 1 rfl rfl dX8_in_53 ?_
      refine zr_iadd hB dX8_in_54 ?_
      refine zr_iaload hB zA_51 dX8_in_55 ?_
      exact zr_iret hB rfl rfl dX8_in_56
    · refine zr_aload_n hB 0 rfl rfl dX8_in_22 ?_
      refine zr_iconst (v := 4) hB (by decide) dX8_in_23 ?_
      refine zr_callV (st := []) (C := RX8) (As := [.int 4]) (embc := em_iI L) hB (mX8_finding (sK := sK) (sV := sV) hi 4 I L) (zW_X8 rfl) rfl rfl lm_X8_74 q2_X8_finding q3_X8_finding q4_X8 q5_X8_finding qd_X8_finding (by decide) rfl rfl (Nat.le_of_ble_eq_true rfl) ⟨Nat.zero_le _, Nat.zero_le _⟩ dX8_in_24 (zr_kiI (fun o12 => ?_))
      exact zr_iret hB rfl rfl dX8_in_27
  · refine zr_aload_n hB 0 rfl rfl dX8_in_8 ?_
    refine zr_iconst (v := 0) hB (by decide) dX8_in_9 ?_
    refine zr_callV (st := []) (C := RX8) (As := [.int 0]) (embc := em_iI L) hB (mX8_finding (sK := sK) (sV := sV) hi 0 I L) (zW_X8 rfl) rfl rfl lm_X8_74 q2_X8_finding q3_X8_finding q4_X8 q5_X8_finding qd_X8_finding (by decide) rfl rfl (Nat.le_of_ble_eq_true rfl) ⟨Nat.zero_le _, Nat.zero_le _⟩ dX8_in_10 (zr_kiI (fun o15 => ?_))
    exact zr_iret hB rfl rfl dX8_in_13

def fX8_out (a1 : Int32) (I : zI) : Option (Int32 × zI) :=
  zb (fX8_isOne a1 I) fun o2 =>
  if o2 = 0 then
    zb (fX8_finding 0 I) fun o20 =>
    some (o20.1, o20.2)
  else
  zb (fX8_roomOf a1 I) fun o4 =>
  zg 9 120 (
  if o4 = (I 51 (zn 9)) then
    zb (fX8_levelOf a1 I) fun o9 =>
    if o9 = 0 then
      zb (fX8_finding 4 I) fun o17 =>
      some (o17.1, o17.2)
    else
    zb (fX8_levelOf a1 I) fun o11 =>
    zg 8 120 (
    zb (fX8_goes a1 (o11 - 1) (I 51 (zn 8)) I) fun o14 =>
    zg (52 + a1) 120 (
    some (o14 51 (zn (52 + a1)), o14)))
  else
  zb (fX8_finding 4 I) fun o7 =>
  some (o7.1, o7.2))
set_option maxHeartbeats 4000000 in
set_option maxRecDepth 100000 in
theorem mX8_out {l : Launch} {D : va_G} {T : zT} {ad sK sV : Nat → Nat} (hi : zInj ad) (a1 : Int32)  (I : zI) (L : zL) : ∀ o, fX8_out a1 I = some o → zMet l yX8_out cX8_out 2 (some .int) 2 46 D T ad sK sV [.ref (ad 50), .int a1] I L (em_iI L o) := by
  intro o ho
  refine zMet.of hi (by decide +kernel) (Nat.le_of_ble_eq_true rfl) (fun p e s m args below meth c hB => ?_)
  refine zr_top (emb := em_iI L) (t := fX8_out a1 I) ?_ ho
  unfold fX8_out
  refine zr_aload_n hB 0 rfl rfl dX8_out_0 ?_
  refine zr_iload_n hB 1 rfl rfl dX8_out_1 ?_
  refine zr_callV (st := []) (C := RX8) (As := [.int a1]) (embc := em_i0 I L) hB (mX8_isOne (sK := sK) (sV := sV) hi a1 I L) (zW_X8 rfl) rfl rfl lm_X8_106 q2_X8_isOne q3_X8_isOne q4_X8 q5_X8_isOne qd_X8_isOne (by decide) rfl rfl (Nat.le_of_ble_eq_true rfl) ⟨Nat.zero_le _, Nat.zero_le _⟩ dX8_out_2 (zr_ki0 (fun o2 => ?_))
  refine zr_ifne (tgt := 14) hB (by decide) dX8_out_5 ?_ ?_
  · refine zr_aload_n hB 0 rfl rfl dX8_out_14 ?_
    refine zr_iload_n hB 1 rfl rfl dX8_out_15 ?_
    refine zr_callV (st := []) (C := RX8) (As := [.int a1]) (embc := em_i0 I L) hB (mX8_roomOf (sK := sK) (sV := sV) hi a1 I L) (zW_X8 rfl) rfl rfl lm_X8_109 q2_X8_roomOf q3_X8_roomOf q4_X8 q5_X8_roomOf qd_X8_roomOf (by decide) rfl rfl (Nat.le_of_ble_eq_true rfl) ⟨Nat.zero_le _, Nat.zero_le _⟩ dX8_out_16 (zr_ki0 (fun o4 => ?_))
    refine zr_aload_n hB 0 rfl rfl dX8_out_19 ?_
    refine zr_get_X8 (w := 50) (k := 0) (v := .ref (ad 51)) hB rfl (by decide) rfl lf_X8_9 rfl dX8_out_20 ?_
    refine zr_bipush (v := 9) hB (by decide) dX8_out_23 ?_
    refine zr_iaload hB zA_51 dX8_out_25 ?_
    refine zr_icmp_ne (tgt := 37) hB (by decide) dX8_out_26 ?_ ?_
    · refine zr_aload_n hB 0 rfl rfl dX8_out_37 ?_
      refine zr_iconst (v := 4) hB (by decide) dX8_out_38 ?_
      refine zr_callV (st := []) (C := RX8) (As := [.int 4]) (embc := em_iI L) hB (mX8_finding (sK := sK) (sV := sV) hi 4 I L) (zW_X8 rfl) rfl rfl lm_X8_74 q2_X8_finding q3_X8_finding q4_X8 q5_X8_finding qd_X8_finding (by decide) rfl rfl (Nat.le_of_ble_eq_true rfl) ⟨Nat.zero_le _, Nat.zero_le _⟩ dX8_out_39 (zr_kiI (fun o7 => ?_))
      exact zr_iret hB rfl rfl dX8_out_42
    · refine zr_aload_n hB 0 rfl rfl dX8_out_29 ?_
      refine zr_iload_n hB 1 rfl rfl dX8_out_30 ?_
      refine zr_callV (st := []) (C := RX8) (As := [.int a1]) (embc := em_i0 I L) hB (mX8_levelOf (sK := sK) (sV := sV) hi a1 I L) (zW_X8 rfl) rfl rfl lm_X8_115 q2_X8_levelOf q3_X8_levelOf q4_X8 q5_X8_levelOf qd_X8_levelOf (by decide) rfl rfl (Nat.le_of_ble_eq_true rfl) ⟨Nat.zero_le _, Nat.zero_le _⟩ dX8_out_31 (zr_ki0 (fun o9 => ?_))
      refine zr_ifne (tgt := 43) hB (by decide) dX8_out_34 ?_ ?_
      · refine zr_aload_n hB 0 rfl rfl dX8_out_43 ?_
        refine zr_iload_n hB 1 rfl rfl dX8_out_44 ?_
        refine zr_aload_n hB 0 rfl rfl dX8_out_45 ?_
        refine zr_iload_n hB 1 rfl rfl dX8_out_46 ?_
        refine zr_callV (st := [.int a1, .ref (ad 50)]) (C := RX8) (As := [.int a1]) (embc := em_i0 I L) hB (mX8_levelOf (sK := sK) (sV := sV) hi a1 I L) (zW_X8 rfl) rfl rfl lm_X8_115 q2_X8_levelOf q3_X8_levelOf q4_X8 q5_X8_levelOf qd_X8_levelOf (by decide) rfl rfl (Nat.le_of_ble_eq_true rfl) ⟨Nat.zero_le _, Nat.zero_le _⟩ dX8_out_47 (zr_ki0 (fun o11 => ?_))
        refine zr_iconst (v := 1) hB (by decide) dX8_out_50 ?_
        refine zr_isub hB dX8_out_51 ?_
        refine zr_aload_n hB 0 rfl rfl dX8_out_52 ?_
        refine zr_get_X8 (w := 50) (k := 0) (v := .ref (ad 51)) hB rfl (by decide) rfl lf_X8_9 rfl dX8_out_53 ?_
        refine zr_bipush (v := 8) hB (by decide) dX8_out_56 ?_
        refine zr_iaload hB zA_51 dX8_out_58 ?_
        refine zr_callV (st := []) (C := RX8) (As := [.int a1, .int (o11 - 1), .int (I 51 (zn 8))]) (embc := em_vI L) hB (mX8_goes (sK := sK) (sV := sV) hi a1 (o11 - 1) (I 51 (zn 8)) I L) (zW_X8 rfl) rfl rfl lm_X8_118 q2_X8_goes q3_X8_goes q4_X8 q5_X8_goes qd_X8_goes (by decide) rfl rfl (Nat.le_of_ble_eq_true rfl) ⟨Nat.zero_le _, Nat.zero_le _⟩ dX8_out_59 (zr_kvI (fun o14 => ?_))
        refine zr_aload_n hB 0 rfl rfl dX8_out_62 ?_
        refine zr_get_X8 (w := 50) (k := 0) (v := .ref (ad 51)) hB rfl (by decide) rfl lf_X8_9 rfl dX8_out_63 ?_
        refine zr_bipush (v := 52) hB (by decide) dX8_out_66 ?_
        refine zr_iload_n hB 1 rfl rfl dX8_out_68 ?_
        refine zr_iadd hB dX8_out_69 ?_
        refine zr_iaload hB zA_51 dX8_out_70 ?_
        exact zr_iret hB rfl rfl dX8_out_71
      · refine zr_aload_n hB 0 rfl rfl dX8_out_37 ?_
        refine zr_iconst (v := 4) hB (by decide) dX8_out_38 ?_
        refine zr_callV (st := []) (C := RX8) (As := [.int 4]) (embc := em_iI L) hB (mX8_finding (sK := sK) (sV := sV) hi 4 I L) (zW_X8 rfl) rfl rfl lm_X8_74 q2_X8_finding q3_X8_finding q4_X8 q5_X8_finding qd_X8_finding (by decide) rfl rfl (Nat.le_of_ble_eq_true rfl) ⟨Nat.zero_le _, Nat.zero_le _⟩ dX8_out_39 (zr_kiI (fun o17 => ?_))
        exact zr_iret hB rfl rfl dX8_out_42
  · refine zr_aload_n hB 0 rfl rfl dX8_out_8 ?_
    refine zr_iconst (v := 0) hB (by decide) dX8_out_9 ?_
    refine zr_callV (st := []) (C := RX8) (As := [.int 0]) (embc := em_iI L) hB (mX8_finding (sK := sK) (sV := sV) hi 0 I L) (zW_X8 rfl) rfl rfl lm_X8_74 q2_X8_finding q3_X8_finding q4_X8 q5_X8_finding qd_X8_finding (by decide) rfl rfl (Nat.le_of_ble_eq_true rfl) ⟨Nat.zero_le _, Nat.zero_le _⟩ dX8_out_10 (zr_kiI (fun o20 => ?_))
    exact zr_iret hB rfl rfl dX8_out_13

def fX8_canCarry (a1 : Int32) (a2 : Int32) (a3 : Int32) (I : zI) : Option (Int32) :=
  zg (36 + a2) 120 (
  zb (fX8_roomOf a1 I) fun o2 =>
  if (I 51 (zn (36 + a2))) = o2 then
    zb (fX8_canWalk a1 a3 I) fun o4 =>
    if o4 = 0 then
      some 0
    else
    zb (fX8_levelOf a1 I) fun o6 =>
    zb (fX8_weighs a2 o6 I) fun o8 =>
    zg (56 + a1) 120 (
    if (I 51 (zn (56 + a1))) < o8 then
      some 0
    else
    some 1)
  else
  some 0)
set_option maxHeartbeats 4000000 in
set_option maxRecDepth 100000 in
theorem mX8_canCarry {l : Launch} {D : va_G} {T : zT} {ad sK sV : Nat → Nat} (hi : zInj ad) (a1 : Int32) (a2 : Int32) (a3 : Int32)  (I : zI) (L : zL) : ∀ o, fX8_canCarry a1 a2 a3 I = some o → zMet l yX8_canCarry cX8_canCarry 4 (some .boolean) 2 45 D T ad sK sV [.ref (ad 50), .int a1, .int a2, .int a3] I L (em_i0 I L o) := by
  intro o ho
  refine zMet.of hi (by decide +kernel) (Nat.le_of_ble_eq_true rfl) (fun p e s m args below meth c hB => ?_)
  refine zr_top (emb := em_i0 I L) (t := fX8_canCarry a1 a2 a3 I) ?_ ho
  unfold fX8_canCarry
  refine zr_aload_n hB 0 rfl rfl dX8_canCarry_0 ?_
  refine zr_get_X8 (w := 50) (k := 0) (v := .ref (ad 51)) hB rfl (by decide) rfl lf_X8_9 rfl dX8_canCarry_1 ?_
  refine zr_bipush (v := 36) hB (by decide) dX8_canCarry_4 ?_
  refine zr_iload_n hB 2 rfl rfl dX8_canCarry_6 ?_
  refine zr_iadd hB dX8_canCarry_7 ?_
  refine zr_iaload hB zA_51 dX8_canCarry_8 ?_
  refine zr_aload_n hB 0 rfl rfl dX8_canCarry_9 ?_
  refine zr_iload_n hB 1 rfl rfl dX8_canCarry_10 ?_
  refine zr_callV (st := [.int (I 51 (zn (36 + a2)))]) (C := RX8) (As := [.int a1]) (embc := em_i0 I L) hB (mX8_roomOf (sK := sK) (sV := sV) hi a1 I L) (zW_X8 rfl) rfl rfl lm_X8_109 q2_X8_roomOf q3_X8_roomOf q4_X8 q5_X8_roomOf qd_X8_roomOf (by decide) rfl rfl (Nat.le_of_ble_eq_true rfl) ⟨Nat.zero_le _, Nat.zero_le _⟩ dX8_canCarry_11 (zr_ki0 (fun o2 => ?_))
  refine zr_icmp_ne (tgt := 52) hB (by decide) dX8_canCarry_14 ?_ ?_
  · refine zr_iconst (v := 0) hB (by decide) dX8_canCarry_52 ?_
    exact zr_zretC (by decide) hB rfl rfl dX8_canCarry_53
  · refine zr_aload_n hB 0 rfl rfl dX8_canCarry_17 ?_
    refine zr_iload_n hB 1 rfl rfl dX8_canCarry_18 ?_
    refine zr_iload_n hB 3 rfl rfl dX8_canCarry_19 ?_
    refine zr_callV (st := []) (C := RX8) (As := [.int a1, .int a3]) (embc := em_i0 I L) hB (mX8_canWalk (sK := sK) (sV := sV) hi a1 a3 I L) (zW_X8 rfl) rfl rfl lm_X8_112 q2_X8_canWalk q3_X8_canWalk q4_X8 q5_X8_canWalk qd_X8_canWalk (by decide) rfl rfl (Nat.le_of_ble_eq_true rfl) ⟨Nat.zero_le _, Nat.zero_le _⟩ dX8_canCarry_20 (zr_ki0 (fun o4 => ?_))
    refine zr_ifeq (tgt := 52) hB (by decide) dX8_canCarry_23 ?_ ?_
    · refine zr_iconst (v := 0) hB (by decide) dX8_canCarry_52 ?_
      exact zr_zretC (by decide) hB rfl rfl dX8_canCarry_53
    · refine zr_aload_n hB 0 rfl rfl dX8_canCarry_26 ?_
      refine zr_iload_n hB 2 rfl rfl dX8_canCarry_27 ?_
      refine zr_aload_n hB 0 rfl rfl dX8_canCarry_28 ?_
      refine zr_iload_n hB 1 rfl rfl dX8_canCarry_29 ?_
      refine zr_callV (st := [.int a2, .ref (ad 50)]) (C := RX8) (As := [.int a1]) (embc := em_i0 I L) hB (mX8_levelOf (sK := sK) (sV := sV) hi a1 I L) (zW_X8 rfl) rfl rfl lm_X8_115 q2_X8_levelOf q3_X8_levelOf q4_X8 q5_X8_levelOf qd_X8_levelOf (by decide) rfl rfl (Nat.le_of_ble_eq_true rfl) ⟨Nat.zero_le _, Nat.zero_le _⟩ dX8_canCarry_30 (zr_ki0 (fun o6 => ?_))
      refine zr_callV (st := []) (C := RX8) (As := [.int a2, .int o6]) (embc := em_i0 I L) hB (mX8_weighs (sK := sK) (sV := sV) hi a2 o6 I L) (zW_X8 rfl) rfl rfl lm_X8_93 q2_X8_weighs q3_X8_weighs q4_X8 q5_X8_weighs qd_X8_weighs (by decide) rfl rfl (Nat.le_of_ble_eq_true rfl) ⟨Nat.zero_le _, Nat.zero_le _⟩ dX8_canCarry_33 (zr_ki0 (fun o8 => ?_))
      refine zr_aload_n hB 0 rfl rfl dX8_canCarry_36 ?_
      refine zr_get_X8 (w := 50) (k := 0) (v := .ref (ad 51)) hB rfl (by decide) rfl lf_X8_9 rfl dX8_canCarry_37 ?_
      refine zr_bipush (v := 56) hB (by decide) dX8_canCarry_40 ?_
      refine zr_iload_n hB 1 rfl rfl dX8_canCarry_42 ?_
      refine zr_iadd hB dX8_canCarry_43 ?_
      refine zr_iaload hB zA_51 dX8_canCarry_44 ?_
      refine zr_icmp_gt (tgt := 52) hB (by decide) dX8_canCarry_45 ?_ ?_
      · refine zr_iconst (v := 0) hB (by decide) dX8_canCarry_52 ?_
        exact zr_zretC (by decide) hB rfl rfl dX8_canCarry_53
      · refine zr_iconst (v := 1) hB (by decide) dX8_canCarry_48 ?_
        refine zr_goto (tgt := 53) hB (by decide) dX8_canCarry_49 ?_
        exact zr_zretC (by decide) hB rfl rfl dX8_canCarry_53

def fX8_canReach (a1 : Int32) (a2 : Int32) (a3 : Int32) (I : zI) : Option (Int32) :=
  zb (fX8_isBefore a1 I) fun o2 =>
  if o2 = 0 then
    some 0
  else
  zg (36 + a2) 120 (
  if (I 51 (zn (36 + a2))) = a3 then
    some 0
  else
  zb (fX8_levelOf a1 I) fun o4 =>
  zb (fX8_weighs a2 (o4 + 1) I) fun o6 =>
  zg (56 + a1) 120 (
  if (I 51 (zn (56 + a1))) < o6 then
    some 0
  else
  some 1))
set_option maxHeartbeats 4000000 in
set_option maxRecDepth 100000 in
theorem mX8_canReach {l : Launch} {D : va_G} {T : zT} {ad sK sV : Nat → Nat} (hi : zInj ad) (a1 : Int32) (a2 : Int32) (a3 : Int32)  (I : zI) (L : zL) : ∀ o, fX8_canReach a1 a2 a3 I = some o → zMet l yX8_canReach cX8_canReach 4 (some .boolean) 2 45 D T ad sK sV [.ref (ad 50), .int a1, .int a2, .int a3] I L (em_i0 I L o) := by
  intro o ho
  refine zMet.of hi (by decide +kernel) (Nat.le_of_ble_eq_true rfl) (fun p e s m args below meth c hB => ?_)
  refine zr_top (emb := em_i0 I L) (t := fX8_canReach a1 a2 a3 I) ?_ ho
  unfold fX8_canReach
  refine zr_aload_n hB 0 rfl rfl dX8_canReach_0 ?_
  refine zr_iload_n hB 1 rfl rfl dX8_canReach_1 ?_
  refine zr_callV (st := []) (C := RX8) (As := [.int a1]) (embc := em_i0 I L) hB (mX8_isBefore (sK := sK) (sV := sV) hi a1 I L) (zW_X8 rfl) rfl rfl lm_X8_121 q2_X8_isBefore q3_X8_isBefore q4_X8 q5_X8_isBefore qd_X8_isBefore (by decide) rfl rfl (Nat.le_of_ble_eq_true rfl) ⟨Nat.zero_le _, Nat.zero_le _⟩ dX8_canReach_2 (zr_ki0 (fun o2 => ?_))
  refine zr_ifeq (tgt := 49) hB (by decide) dX8_canReach_5 ?_ ?_
  · refine zr_iconst (v := 0) hB (by decide) dX8_canReach_49 ?_
    exact zr_zretC (by decide) hB rfl rfl dX8_canReach_50
  · refine zr_aload_n hB 0 rfl rfl dX8_canReach_8 ?_
    refine zr_get_X8 (w := 50) (k := 0) (v := .ref (ad 51)) hB rfl (by decide) rfl lf_X8_9 rfl dX8_canReach_9 ?_
    refine zr_bipush (v := 36) hB (by decide) dX8_canReach_12 ?_
    refine zr_iload_n hB 2 rfl rfl dX8_canReach_14 ?_
    refine zr_iadd hB dX8_canReach_15 ?_
    refine zr_iaload hB zA_51 dX8_canReach_16 ?_
    refine zr_iload_n hB 3 rfl rfl dX8_canReach_17 ?_
    refine zr_icmp_eq (tgt := 49) hB (by decide) dX8_canReach_18 ?_ ?_
    · refine zr_iconst (v := 0) hB (by decide) dX8_canReach_49 ?_
      exact zr_zretC (by decide) hB rfl rfl dX8_canReach_50
    · refine zr_aload_n hB 0 rfl rfl dX8_canReach_21 ?_
      refine zr_iload_n hB 2 rfl rfl dX8_canReach_22 ?_
      refine zr_aload_n hB 0 rfl rfl dX8_canReach_23 ?_
      refine zr_iload_n hB 1 rfl rfl dX8_canReach_24 ?_
      refine zr_callV (st := [.int a2, .ref (ad 50)]) (C := RX8) (As := [.int a1]) (embc := em_i0 I L) hB (mX8_levelOf (sK := sK) (sV := sV) hi a1 I L) (zW_X8 rfl) rfl rfl lm_X8_115 q2_X8_levelOf q3_X8_levelOf q4_X8 q5_X8_levelOf qd_X8_levelOf (by decide) rfl rfl (Nat.le_of_ble_eq_true rfl) ⟨Nat.zero_le _, Nat.zero_le _⟩ dX8_canReach_25 (zr_ki0 (fun o4 => ?_))
      refine zr_iconst (v := 1) hB (by decide) dX8_canReach_28 ?_
      refine zr_iadd hB dX8_canReach_29 ?_
      refine zr_callV (st := []) (C := RX8) (As := [.int a2, .int (o4 + 1)]) (embc := em_i0 I L) hB (mX8_weighs (sK := sK) (sV := sV) hi a2 (o4 + 1) I L) (zW_X8 rfl) rfl rfl lm_X8_93 q2_X8_weighs q3_X8_weighs q4_X8 q5_X8_weighs qd_X8_weighs (by decide) rfl rfl (Nat.le_of_ble_eq_true rfl) ⟨Nat.zero_le _, Nat.zero_le _⟩ dX8_canReach_30 (zr_ki0 (fun o6 => ?_))
      refine zr_aload_n hB 0 rfl rfl dX8_canReach_33 ?_
      refine zr_get_X8 (w := 50) (k := 0) (v := .ref (ad 51)) hB rfl (by decide) rfl lf_X8_9 rfl dX8_canReach_34 ?_
      refine zr_bipush (v := 56) hB (by decide) dX8_canReach_37 ?_
      refine zr_iload_n hB 1 rfl rfl dX8_canReach_39 ?_
      refine zr_iadd hB dX8_canReach_40 ?_
      refine zr_iaload hB zA_51 dX8_canReach_41 ?_
      refine zr_icmp_gt (tgt := 49) hB (by decide) dX8_canReach_42 ?_ ?_
      · refine zr_iconst (v := 0) hB (by decide) dX8_canReach_49 ?_
        exact zr_zretC (by decide) hB rfl rfl dX8_canReach_50
      · refine zr_iconst (v := 1) hB (by decide) dX8_canReach_45 ?_
        refine zr_goto (tgt := 50) hB (by decide) dX8_canReach_46 ?_
        exact zr_zretC (by decide) hB rfl rfl dX8_canReach_50

def gX8_standing_5 (a1 : Int32) (a2 : Int32) (I : zI) (s1 : Int32 × Int32) : Option ((Int32 × Int32) ⊕ (Int32)) :=
  zg 12 120 (
  if (I 51 (zn 12)) ≤ s1.2 then
    some (.inr s1.1)
  else
  if s1.2 = a2 then
    zl (s1.1 + 0) fun v10 =>
    zl (s1.2 + 1) fun v11 =>
    some (.inl (v10, v11))
  else
  zb (fX8_roomOf s1.2 I) fun o13 =>
  if o13 = a1 then
    zl (s1.1 + 1) fun v16 =>
    zl (s1.2 + 1) fun v17 =>
    some (.inl (v16, v17))
  else
  zl (s1.1 + 0) fun v14 =>
  zl (s1.2 + 1) fun v15 =>
  some (.inl (v14, v15)))
def fX8_standing (n : Nat) (a1 : Int32) (a2 : Int32) (I : zI) : Option (Int32) :=
  zb (zit (gX8_standing_5 a1 a2 I) n (0, 0)) fun x2 : Int32 =>
  some x2
set_option maxHeartbeats 4000000 in
set_option maxRecDepth 100000 in
theorem mX8_standing {l : Launch} {D : va_G} {T : zT} {ad sK sV : Nat → Nat} (hi : zInj ad) (n : Nat) (a1 : Int32) (a2 : Int32)  (I : zI) (L : zL) : ∀ o, fX8_standing n a1 a2 I = some o → zMet l yX8_standing cX8_standing 5 (some .int) 1 21 D T ad sK sV [.ref (ad 50), .int a1, .int a2] I L (em_i0 I L o) := by
  intro o ho
  refine zMet.of hi (by decide +kernel) (Nat.le_of_ble_eq_true rfl) (fun p e s m args below meth c hB => ?_)
  refine zr_top (emb := em_i0 I L) (t := fX8_standing n a1 a2 I) ?_ ho
  unfold fX8_standing
  refine zr_iconst (v := 0) hB (by decide) dX8_standing_0 ?_
  refine zr_istore_n (lv' := [(3, .int 0), (0, .ref (ad 50)), (1, .int a1), (2, .int a2)]) hB rfl (by decide) rfl dX8_standing_1 ?_
  refine zr_iconst (v := 0) hB (by decide) dX8_standing_2 ?_
  refine zr_istore (lv' := [(4, .int 0), (3, .int 0), (0, .ref (ad 50)), (1, .int a1), (2, .int a2)]) hB (by decide) rfl dX8_standing_3 ?_
  refine zr_join (pcJ := 47) (fun x2 : Int32 => [(3, .int x2)]) (fun _ => []) (fun x2 => I) (fun x2 => L) (fun x2 => ?_) (fun K8 hx7 => ?_)
  · refine zr_iload_n hB 0 rfl rfl dX8_standing_47 ?_
    exact zr_iret hB rfl rfl dX8_standing_48
  · refine zr_sub (lv' := (fun s1 : Int32 × Int32 => [(3, .int s1.1), (4, .int s1.2), (0, .ref (ad 50)), (1, .int a1), (2, .int a2)]) (0, 0)) [1, 0, 2, 3, 4] rfl (zr_loop (fun s1 : Int32 × Int32 => [(3, .int s1.1), (4, .int s1.2), (0, .ref (ad 50)), (1, .int a1), (2, .int a2)]) (fun s1 => I) (fun s1 => L) (fun x2 : Int32 => [(3, .int x2)]) (fun x2 => I) (fun x2 => L) hx7 (fun s1 K9 hc3 hx4 => ?_) n (0, 0))
    unfold gX8_standing_5
    refine zr_iload hB 1 rfl dX8_standing_5 ?_
    refine zr_aload_n hB 2 rfl rfl dX8_standing_7 ?_
    refine zr_get_X8 (w := 50) (k := 0) (v := .ref (ad 51)) hB rfl (by decide) rfl lf_X8_9 rfl dX8_standing_8 ?_
    refine zr_bipush (v := 12) hB (by decide) dX8_standing_11 ?_
    refine zr_iaload hB zA_51 dX8_standing_13 ?_
    refine zr_icmp_ge (tgt := 47) hB (by decide) dX8_standing_14 ?_ ?_
    · exact zr_sub [0] rfl (hx4 s1.1)
    · refine zr_iload_n hB 0 rfl rfl dX8_standing_17 ?_
      refine zr_iload hB 1 rfl dX8_standing_18 ?_
      refine zr_iload_n hB 4 rfl rfl dX8_standing_20 ?_
      refine zr_icmp_eq (tgt := 38) hB (by decide) dX8_standing_21 ?_ ?_
      · refine zr_iconst (v := 0) hB (by decide) dX8_standing_38 ?_
        refine zr_iadd hB dX8_standing_39 ?_
        refine zr_letI (fun v10 => ?_)
        refine zr_istore_n (lv' := [(3, .int v10), (4, .int s1.2), (0, .ref (ad 50)), (1, .int a1), (2, .int a2)]) hB rfl (by decide) rfl dX8_standing_40 ?_
        refine zr_iincL hB (j := 1) (n := 1) (w := 1) rfl (by decide) (by decide) dX8_standing_41 (fun v11 lv' hlv => ?_)
        obtain rfl : lv' = [(4, .int v11), (3, .int v10), (0, .ref (ad 50)), (1, .int a1), (2, .int a2)] := hlv.symm.trans rfl
        refine zr_goto (tgt := 5) hB (by decide) dX8_standing_44 ?_
        exact zr_sub [1, 0, 2, 3, 4] rfl (hc3 (v10, v11))
      · refine zr_aload_n hB 2 rfl rfl dX8_standing_24 ?_
        refine zr_iload hB 1 rfl dX8_standing_25 ?_
        refine zr_callV (st := [.int s1.1]) (C := RX8) (As := [.int s1.2]) (embc := em_i0 I L) hB (mX8_roomOf (sK := sK) (sV := sV) hi s1.2 I L) (zW_X8 rfl) rfl rfl lm_X8_109 q2_X8_roomOf q3_X8_roomOf q4_X8 q5_X8_roomOf qd_X8_roomOf (by decide) rfl rfl (Nat.le_of_ble_eq_true rfl) ⟨Nat.zero_le _, Nat.zero_le _⟩ dX8_standing_27 (zr_ki0 (fun o13 => ?_))
        refine zr_iload_n hB 3 rfl rfl dX8_standing_30 ?_
        refine zr_icmp_ne (tgt := 38) hB (by decide) dX8_standing_31 ?_ ?_
        · refine zr_iconst (v := 0) hB (by decide) dX8_standing_38 ?_
          refine zr_iadd hB dX8_standing_39 ?_
          refine zr_letI (fun v14 => ?_)
          refine zr_istore_n (lv' := [(3, .int v14), (4, .int s1.2), (0, .ref (ad 50)), (1, .int a1), (2, .int a2)]) hB rfl (by decide) rfl dX8_standing_40 ?_
          refine zr_iincL hB (j := 1) (n := 1) (w := 1) rfl (by decide) (by decide) dX8_standing_41 (fun v15 lv' hlv => ?_)
          obtain rfl : lv' = [(4, .int v15), (3, .int v14), (0, .ref (ad 50)), (1, .int a1), (2, .int a2)] := hlv.symm.trans rfl
          refine zr_goto (tgt := 5) hB (by decide) dX8_standing_44 ?_
          exact zr_sub [1, 0, 2, 3, 4] rfl (hc3 (v14, v15))
        · refine zr_iconst (v := 1) hB (by decide) dX8_standing_34 ?_
          refine zr_goto (tgt := 39) hB (by decide) dX8_standing_35 ?_
          refine zr_iadd hB dX8_standing_39 ?_
          refine zr_letI (fun v16 => ?_)
          refine zr_istore_n (lv' := [(3, .int v16), (4, .int s1.2), (0, .ref (ad 50)), (1, .int a1), (2, .int a2)]) hB rfl (by decide) rfl dX8_standing_40 ?_
          refine zr_iincL hB (j := 1) (n := 1) (w := 1) rfl (by decide) (by decide) dX8_standing_41 (fun v17 lv' hlv => ?_)
          obtain rfl : lv' = [(4, .int v17), (3, .int v16), (0, .ref (ad 50)), (1, .int a1), (2, .int a2)] := hlv.symm.trans rfl
          refine zr_goto (tgt := 5) hB (by decide) dX8_standing_44 ?_
          exact zr_sub [1, 0, 2, 3, 4] rfl (hc3 (v16, v17))

