def em_v0 (I : zI) (L : zL) (r : Unit) : zO := (none, I, L)
def em_vI (L : zL) (r : zI) : zO := (none, r, L)
def em_vL (r : zI × zL) : zO := (none, r.1, r.2)
def em_i0 (I : zI) (L : zL) (r : Int32) : zO := (some (.int r), I, L)
def em_iI (L : zL) (r : Int32 × zI) : zO := (some (.int r.1), r.2, L)
def em_iL (r : Int32 × zI × zL) : zO := (some (.int r.1), r.2.1, r.2.2)
def em_l0 (I : zI) (L : zL) (r : Int64) : zO := (some (.long r), I, L)
def em_lI (L : zL) (r : Int64 × zI) : zO := (some (.long r.1), r.2, L)
def em_lL (r : Int64 × zI × zL) : zO := (some (.long r.1), r.2.1, r.2.2)
def em_s0 (sK : Nat → Nat) (I : zI) (L : zL) (r : Nat) : zO := (some (.ref (sK r)), I, L)
def em_sI (sK : Nat → Nat) (L : zL) (r : Nat × zI) : zO := (some (.ref (sK r.1)), r.2, L)
def em_sL (sK : Nat → Nat) (r : Nat × zI × zL) : zO := (some (.ref (sK r.1)), r.2.1, r.2.2)
section ZROWS2
variable {α β γ ω σ χ : Type} {p : Program} {l : Launch} {e : Env} {R : Room} {s : State} {m : MethodId} {args : Array Value} {below : List Frame} {meth : Method} {c : Code} {D : va_G} {T : zT} {ad sK sV : Nat → Nat} {A : Nat → Prop} {cc : ByteArray} {own : String} {nL cells slots : Nat} {ret : Option FieldType} {Qf : ω → State → Prop} {pc : Nat} {lv : List (Nat × Value)} {st : List Value} {I : zI} {L : zL} {K : α → Option ω} {t : Option α}
theorem zr_kv0 {tk : Unit → Option α} {pc : Nat} (k : ∀ r : Unit, zZ p l e R s m args below meth c D T ad A nL cells slots Qf pc lv (st) I L K (tk r)) : ∀ r : Unit, zZ p l e R s m args below meth c D T ad A nL cells slots Qf pc lv ((em_v0 I L  r).1.toList ++ st) (em_v0 I L  r).2.1 (em_v0 I L  r).2.2 K (tk r) := k
theorem zr_kvI {tk : zI → Option α} {pc : Nat} (k : ∀ r : zI, zZ p l e R s m args below meth c D T ad A nL cells slots Qf pc lv (st) (r) L K (tk r)) : ∀ r : zI, zZ p l e R s m args below meth c D T ad A nL cells slots Qf pc lv ((em_vI L  r).1.toList ++ st) (em_vI L  r).2.1 (em_vI L  r).2.2 K (tk r) := k
theorem zr_kvL {tk : zI × zL → Option α} {pc : Nat} (k : ∀ r : zI × zL, zZ p l e R s m args below meth c D T ad A nL cells slots Qf pc lv (st) (r.1) (r.2) K (tk r)) : ∀ r : zI × zL, zZ p l e R s m args below meth c D T ad A nL cells slots Qf pc lv ((em_vL  r).1.toList ++ st) (em_vL  r).2.1 (em_vL  r).2.2 K (tk r) := k
theorem zr_ki0 {tk : Int32 → Option α} {pc : Nat} (k : ∀ r : Int32, zZ p l e R s m args below meth c D T ad A nL cells slots Qf pc lv (.int (r) :: st) I L K (tk r)) : ∀ r : Int32, zZ p l e R s m args below meth c D T ad A nL cells slots Qf pc lv ((em_i0 I L  r).1.toList ++ st) (em_i0 I L  r).2.1 (em_i0 I L  r).2.2 K (tk r) := k
theorem zr_kiI {tk : Int32 × zI → Option α} {pc : Nat} (k : ∀ r : Int32 × zI, zZ p l e R s m args below meth c D T ad A nL cells slots Qf pc lv (.int (r.1) :: st) (r.2) L K (tk r)) : ∀ r : Int32 × zI, zZ p l e R s m args below meth c D T ad A nL cells slots Qf pc lv ((em_iI L  r).1.toList ++ st) (em_iI L  r).2.1 (em_iI L  r).2.2 K (tk r) := k
theorem zr_kiL {tk : Int32 × zI × zL → Option α} {pc : Nat} (k : ∀ r : Int32 × zI × zL, zZ p l e R s m args below meth c D T ad A nL cells slots Qf pc lv (.int (r.1) :: st) (r.2.1) (r.2.2) K (tk r)) : ∀ r : Int32 × zI × zL, zZ p l e R s m args below meth c D T ad A nL cells slots Qf pc lv ((em_iL  r).1.toList ++ st) (em_iL  r).2.1 (em_iL  r).2.2 K (tk r) := k
theorem zr_kl0 {tk : Int64 → Option α} {pc : Nat} (k : ∀ r : Int64, zZ p l e R s m args below meth c D T ad A nL cells slots Qf pc lv (.long (r) :: st) I L K (tk r)) : ∀ r : Int64, zZ p l e R s m args below meth c D T ad A nL cells slots Qf pc lv ((em_l0 I L  r).1.toList ++ st) (em_l0 I L  r).2.1 (em_l0 I L  r).2.2 K (tk r) := k
theorem zr_klI {tk : Int64 × zI → Option α} {pc : Nat} (k : ∀ r : Int64 × zI, zZ p l e R s m args below meth c D T ad A nL cells slots Qf pc lv (.long (r.1) :: st) (r.2) L K (tk r)) : ∀ r : Int64 × zI, zZ p l e R s m args below meth c D T ad A nL cells slots Qf pc lv ((em_lI L  r).1.toList ++ st) (em_lI L  r).2.1 (em_lI L  r).2.2 K (tk r) := k
theorem zr_klL {tk : Int64 × zI × zL → Option α} {pc : Nat} (k : ∀ r : Int64 × zI × zL, zZ p l e R s m args below meth c D T ad A nL cells slots Qf pc lv (.long (r.1) :: st) (r.2.1) (r.2.2) K (tk r)) : ∀ r : Int64 × zI × zL, zZ p l e R s m args below meth c D T ad A nL cells slots Qf pc lv ((em_lL  r).1.toList ++ st) (em_lL  r).2.1 (em_lL  r).2.2 K (tk r) := k
theorem zr_ks0 {tk : Nat → Option α} {pc : Nat} (k : ∀ r : Nat, zZ p l e R s m args below meth c D T ad A nL cells slots Qf pc lv (.ref (sK (r)) :: st) I L K (tk r)) : ∀ r : Nat, zZ p l e R s m args below meth c D T ad A nL cells slots Qf pc lv ((em_s0 sK I L  r).1.toList ++ st) (em_s0 sK I L  r).2.1 (em_s0 sK I L  r).2.2 K (tk r) := k
theorem zr_ksI {tk : Nat × zI → Option α} {pc : Nat} (k : ∀ r : Nat × zI, zZ p l e R s m args below meth c D T ad A nL cells slots Qf pc lv (.ref (sK (r.1)) :: st) (r.2) L K (tk r)) : ∀ r : Nat × zI, zZ p l e R s m args below meth c D T ad A nL cells slots Qf pc lv ((em_sI sK L  r).1.toList ++ st) (em_sI sK L  r).2.1 (em_sI sK L  r).2.2 K (tk r) := k
theorem zr_ksL {tk : Nat × zI × zL → Option α} {pc : Nat} (k : ∀ r : Nat × zI × zL, zZ p l e R s m args below meth c D T ad A nL cells slots Qf pc lv (.ref (sK (r.1)) :: st) (r.2.1) (r.2.2) K (tk r)) : ∀ r : Nat × zI × zL, zZ p l e R s m args below meth c D T ad A nL cells slots Qf pc lv ((em_sL sK  r).1.toList ++ st) (em_sL sK  r).2.1 (em_sL sK  r).2.2 K (tk r) := k
theorem zr_top {emb : ω → zO} {t : Option ω} (k : zZ p l e R s m args below meth c D T ad A nL cells slots (fun o => MQ below (zQc D T ad (emb o)) args s 0 0 (zAd ad)) pc lv st I L some t) {o : ω} (ho : t = some o) : zX p l e R s m args below meth c D T ad A nL cells slots (MQ below (zQc D T ad (emb o)) args s 0 0 (zAd ad)) pc lv st I L := k o (by rw [zb_some]; exact ho)
theorem vp_lt {j : Int32} {n : Nat} (h : vp_in j n) : zn j < n := Nat.not_le.mp fun q => h (Or.inr q)
theorem zr_iincL (hB : zB p s m args meth c D T ad A sK sV cc own nL ret) {i j : Nat} {n : Int} {x w : Int32} {f : Int32 → Option α} (hj : lv[j]? = some (i, .int x)) (hv : Int32.ofInt n = w) (hn : i < nL) (d : decode cc pc = .ok (.iinc i n, 3)) (k : ∀ (y : Int32) (lv' : List (Nat × Value)), (i, Value.int y) :: lv.filter (fun q => !(q.1 == i) && !(q.1 + 1 == i && q.2.category == 2)) = lv' → zZ p l e R s m args below meth c D T ad A nL cells slots Qf (pc + 3) lv' (st) I L K (f y)) : zZ p l e R s m args below meth c D T ad A nL cells slots Qf pc lv (st) I L K (zl (x + w) f) := zr_iinc hB hj (by rw [hv]) hn rfl d (k (x + w) _ rfl)
theorem zr_aaloadH (hB : zB p s m args meth c D T ad A sK sV cc own nL ret) {j : Int32} (d : decode cc pc = .ok (.aaload, 1)) (k : vp_in j 4 → zZ p l e R s m args below meth c D T ad A nL cells slots Qf (pc + 1) lv (.ref (ad (42 + 2 * zn j)) :: st) I L K (t)) : zZ p l e R s m args below meth c D T ad A nL cells slots Qf pc lv (.int j :: .ref (ad 40) :: st) I L K (zg j 4 t) := zr_gd (fun h => by
  have e : t = zg j 4 t := by
    unfold zg
    rw [if_pos ⟨Int32.not_lt.mp (fun q => h (Or.inl q)), vp_lt h⟩]
  rw [e]
  exact zr_aaload hB d (k h))
theorem zr_ldcSw (hB : zB p s m args meth c D T ad A sK sV cc own nL ret) {index i : Nat} {tx : String} (hi : i < 36) (he : zsE i = (own, index, tx)) (d : decode cc pc = .ok (.ldc_w index, 3)) (k : zZ p l e R s m args below meth c D T ad A nL cells slots Qf (pc + 3) lv (.ref (sK i) :: st) I L K (t)) : zZ p l e R s m args below meth c D T ad A nL cells slots Qf pc lv (st) I L K (t) := fun o ho H locs ls hP hS hl T0 hT X => by
  obtain ⟨t, a1, b1⟩ := k o ho H locs ls hP hS hl T0 hT X
  have hz := hB.2.2.2.2.2.2.2.1.2.2.1 i hi
  rw [he] at hz
  exact ⟨t, X.ldcStringW hB.1 hB.2.2.2.2.1 hz.1 hz.2 (g := F0 m pc ls st) rfl (by rw [hB.2.1]; exact d) t a1, b1⟩
def zgs {α : Type} (i : Nat) (t : Option α) : Option α := if i < 36 then t else none
theorem zr_gs {i : Nat} (k : i < 36 → zZ p l e R s m args below meth c D T ad A nL cells slots Qf pc lv (st) I L K (t)) : zZ p l e R s m args below meth c D T ad A nL cells slots Qf pc lv (st) I L K (zgs i t) := by
  by_cases hv : i < 36
  · have e : zgs i t = t := by unfold zgs; rw [if_pos hv]
    rw [e]; exact k hv
  · intro o ho; unfold zgs at ho; rw [if_neg hv] at ho; cases ho
theorem zr_alen (hB : zB p s m args meth c D T ad A sK sV cc own nL ret) {ca n : Nat} (hA : zA ca n) (d : decode cc pc = .ok (.arraylength, 1)) (k : zZ p l e R s m args below meth c D T ad A nL cells slots Qf (pc + 1) lv (.int (nI n) :: st) I L K (t)) : zZ p l e R s m args below meth c D T ad A nL cells slots Qf pc lv (.ref (ad ca) :: st) I L K (t) := fun o ho H locs ls hP hS hl => va_alen (D := D) (tys := zty T) (cA := T.1) (x := (n, .inl (I ca))) (ty := .int) hB.1 hB.2.1 hB.2.2.2.2.2.2.2.1.1 hP ca 0 (by rw [zW_get hA.1.1, hA.2]) rfl rfl d (k o ho H locs ls hP hS hl)
theorem zr_alenL (hB : zB p s m args meth c D T ad A sK sV cc own nL ret) {ca n : Nat} (hA : zAL ca n) (d : decode cc pc = .ok (.arraylength, 1)) (k : zZ p l e R s m args below meth c D T ad A nL cells slots Qf (pc + 1) lv (.int (nI n) :: st) I L K (t)) : zZ p l e R s m args below meth c D T ad A nL cells slots Qf pc lv (.ref (ad ca) :: st) I L K (t) := fun o ho H locs ls hP hS hl => va_alen (D := D) (tys := zty T) (cA := T.2.1) (x := (n, .inr (.inl (L ca)))) (ty := .long) hB.1 hB.2.1 hB.2.2.2.2.2.2.2.1.1 hP ca 1 (by rw [zW_get hA.1.1, hA.2]) rfl rfl d (k o ho H locs ls hP hS hl)
def zfill (I : zI) (ca n : Nat) (v : Int32) : zI := zset I ca (fun k => if k < n then v else I ca k)
def zfillL (L : zL) (ca n : Nat) (v : Int64) : zL := fun a => if a = ca then (fun k => if k < n then v else L ca k) else L a
theorem zfill_up (I : zI) (ca i : Nat) (v : Int32) : zup (zfill I ca i v) ca i v = zfill I ca (i + 1) v := by
  funext a b
  unfold zup zfill zset upd
  by_cases ha : a = ca
  · rw [if_pos ha, if_pos ha, if_pos ha]
    by_cases hb : b = i
    · rw [if_pos hb, if_pos (by omega)]
    · rw [if_neg hb]
      by_cases h2 : b < i
      · rw [if_pos h2, if_pos (by omega)]
      · rw [if_neg h2, if_neg (by omega)]
  · rw [if_neg ha, if_neg ha, if_neg ha]
theorem zfill_0 (I : zI) (ca : Nat) (v : Int32) : zfill I ca 0 v = I := by
  funext a b
  unfold zfill zset
  by_cases ha : a = ca
  · rw [if_pos ha, if_neg (by omega), ha]
  · rw [if_neg ha]
theorem zfillL_up (I : zL) (ca i : Nat) (v : Int64) : zupL (zfillL I ca i v) ca i v = zfillL I ca (i + 1) v := by
  funext a b
  unfold zupL zfillL vp_updL
  by_cases ha : a = ca
  · rw [if_pos ha, if_pos ha, if_pos ha]
    by_cases hb : b = i
    · rw [if_pos hb, if_pos (by omega)]
    · rw [if_neg hb]
      by_cases h2 : b < i
      · rw [if_pos h2, if_pos (by omega)]
      · rw [if_neg h2, if_neg (by omega)]
  · rw [if_neg ha, if_neg ha, if_neg ha]
theorem zfillL_0 (I : zL) (ca : Nat) (v : Int64) : zfillL I ca 0 v = I := by
  funext a b
  unfold zfillL
  by_cases ha : a = ca
  · rw [if_pos ha, if_neg (by omega), ha]
  · rw [if_neg ha]
theorem zg_nI {α : Type} {i n : Nat} (t : Option α) (h : i < n) (hn : n < 2 ^ 31) : zg (nI i) n t = t := by
  unfold zg
  rw [if_pos ⟨nI_pos' (by omega), by rw [nI_clamp (by omega)]; exact h⟩]
end ZROWS2
set_option maxRecDepth 100000 in
theorem mJ7_fill_53178 {l : Launch} {D : va_G} {T : zT} {ad sK sV : Nat → Nat} (hi : zInj ad) {ca n : Nat} (hA : zA ca n) (v : Int32) (I : zI) (L : zL) : zMet l yJ7_fill_53178 cJ7_fill_53178 4 none 0 0 D T ad sK sV [.ref (ad ca), .int v] I L (none, zfill I ca n v, L) := by
  refine zMet.of hi (by decide +kernel) (Nat.le_of_ble_eq_true rfl) (fun p e s m args below meth c hB => ?_)
  refine zr_top (emb := fun o => o) (t := some (none, zfill I ca n v, L)) ?_ rfl
  have loop : ∀ (q i : Nat), i + q = n → zZ p l e { frames := 0, cells := 0, slots := 0, locals := 0 } s m args below meth c D T ad (zAd ad) 4 0 0 (fun o => MQ below (zQc D T ad o) args s 0 0 (zAd ad)) 5 [(2, .int (nI i)), (3, .int (nI n)), (0, .ref (ad ca)), (1, .int v)] [] (zfill I ca i v) L some (some (none, zfill I ca n v, L)) := by
    intro q
    induction q with
    | zero =>
      intro i hq
      have hin : n = i := by omega
      subst hin
      refine zr_iload_n hB 0 rfl rfl dJ7_fill_53178_5 ?_
      refine zr_iload_n hB 1 rfl rfl dJ7_fill_53178_6 ?_
      have e0 : (some (none, zfill I ca n v, L) : Option zO) = if nI n ≤ nI n then some (none, zfill I ca n v, L) else none := by rw [if_pos (nI_le (Nat.le_refl n) hA.1.2)]
      rw [e0]
      refine zr_icmp_ge (tgt := 20) hB (by decide) dJ7_fill_53178_7 ?_ ?_
      · exact zr_vret hB rfl rfl dJ7_fill_53178_20
      · intro o ho; cases ho
    | succ q ih =>
      intro i hq
      have hlt : i < n := by omega
      refine zr_iload_n hB 0 rfl rfl dJ7_fill_53178_5 ?_
      refine zr_iload_n hB 1 rfl rfl dJ7_fill_53178_6 ?_
      have e0 : (some (none, zfill I ca n v, L) : Option zO) = if nI n ≤ nI i then none else some (none, zfill I ca n v, L) := by rw [if_neg (nI_ge hlt hA.1.2)]
      rw [e0]
      refine zr_icmp_ge (tgt := 20) hB (by decide) dJ7_fill_53178_7 ?_ ?_
      · intro o ho; cases ho
      · refine zr_aload_n hB 2 rfl rfl dJ7_fill_53178_10 ?_
        refine zr_iload_n hB 0 rfl rfl dJ7_fill_53178_11 ?_
        refine zr_iload_n hB 3 rfl rfl dJ7_fill_53178_12 ?_
        rw [← zg_nI (some (none, zfill I ca n v, L) : Option zO) hlt hA.1.2]
        refine zr_iastore hB hA dJ7_fill_53178_13 ?_
        rw [show zn (nI i) = i from nI_clamp (by have := hA.1.2; omega)]
        refine zr_iinc (lv' := [(2, .int (nI (i + 1))), (3, .int (nI n)), (0, .ref (ad ca)), (1, .int v)]) hB (j := 0) rfl (by rw [nI_succ]; rfl) (by decide) rfl dJ7_fill_53178_14 ?_
        refine zr_goto (tgt := 5) hB (by decide) dJ7_fill_53178_17 ?_
        rw [zfill_up]
        exact ih (i + 1) (by omega)
  refine zr_iconst (v := nI 0) hB (by decide) dJ7_fill_53178_0 ?_
  refine zr_istore_n (lv' := [(2, .int (nI 0)), (0, .ref (ad ca)), (1, .int v)]) hB rfl (by decide) rfl dJ7_fill_53178_1 ?_
  refine zr_aload_n hB 1 rfl rfl dJ7_fill_53178_2 ?_
  refine zr_alen hB hA dJ7_fill_53178_3 ?_
  refine zr_istore_n (lv' := [(3, .int (nI n)), (2, .int (nI 0)), (0, .ref (ad ca)), (1, .int v)]) hB rfl (by decide) rfl dJ7_fill_53178_4 ?_
  refine zr_sub (lv' := [(2, .int (nI 0)), (3, .int (nI n)), (0, .ref (ad ca)), (1, .int v)]) [1, 0, 2, 3] rfl ?_
  have h0 := loop n 0 (by omega)
  rw [zfill_0] at h0
  exact h0
set_option maxRecDepth 100000 in
theorem mJ7_fill_d0a16 {l : Launch} {D : va_G} {T : zT} {ad sK sV : Nat → Nat} (hi : zInj ad) {ca n : Nat} (hA : zAL ca n) (v : Int64) (I : zI) (L : zL) : zMet l yJ7_fill_d0a16 cJ7_fill_d0a16 5 none 0 0 D T ad sK sV [.ref (ad ca), .long v] I L (none, I, zfillL L ca n v) := by
  refine zMet.of hi (by decide +kernel) (Nat.le_of_ble_eq_true rfl) (fun p e s m args below meth c hB => ?_)
  refine zr_top (emb := fun o => o) (t := some (none, I, zfillL L ca n v)) ?_ rfl
  have loop : ∀ (q i : Nat), i + q = n → zZ p l e { frames := 0, cells := 0, slots := 0, locals := 0 } s m args below meth c D T ad (zAd ad) 5 0 0 (fun o => MQ below (zQc D T ad o) args s 0 0 (zAd ad)) 6 [(3, .int (nI i)), (4, .int (nI n)), (0, .ref (ad ca)), (1, .long v)] [] I (zfillL L ca i v) some (some (none, I, zfillL L ca n v)) := by
    intro q
    induction q with
    | zero =>
      intro i hq
      have hin : n = i := by omega
      subst hin
      refine zr_iload_n hB 0 rfl rfl dJ7_fill_d0a16_6 ?_
      refine zr_iload hB 1 rfl dJ7_fill_d0a16_7 ?_
      have e0 : (some (none, I, zfillL L ca n v) : Option zO) = if nI n ≤ nI n then some (none, I, zfillL L ca n v) else none := by rw [if_pos (nI_le (Nat.le_refl n) hA.1.2)]
      rw [e0]
      refine zr_icmp_ge (tgt := 22) hB (by decide) dJ7_fill_d0a16_9 ?_ ?_
      · exact zr_vret hB rfl rfl dJ7_fill_d0a16_22
      · intro o ho; cases ho
    | succ q ih =>
      intro i hq
      have hlt : i < n := by omega
      refine zr_iload_n hB 0 rfl rfl dJ7_fill_d0a16_6 ?_
      refine zr_iload hB 1 rfl dJ7_fill_d0a16_7 ?_
      have e0 : (some (none, I, zfillL L ca n v) : Option zO) = if nI n ≤ nI i then none else some (none, I, zfillL L ca n v) := by rw [if_neg (nI_ge hlt hA.1.2)]
      rw [e0]
      refine zr_icmp_ge (tgt := 22) hB (by decide) dJ7_fill_d0a16_9 ?_ ?_
      · intro o ho; cases ho
      · refine zr_aload_n hB 2 rfl rfl dJ7_fill_d0a16_12 ?_
        refine zr_iload_n hB 0 rfl rfl dJ7_fill_d0a16_13 ?_
        refine zr_lload_n hB 3 rfl rfl dJ7_fill_d0a16_14 ?_
        rw [← zg_nI (some (none, I, zfillL L ca n v) : Option zO) hlt hA.1.2]
        refine zr_lastore hB hA dJ7_fill_d0a16_15 ?_
        rw [show zn (nI i) = i from nI_clamp (by have := hA.1.2; omega)]
        refine zr_iinc (lv' := [(3, .int (nI (i + 1))), (4, .int (nI n)), (0, .ref (ad ca)), (1, .long v)]) hB (j := 0) rfl (by rw [nI_succ]; rfl) (by decide) rfl dJ7_fill_d0a16_16 ?_
        refine zr_goto (tgt := 6) hB (by decide) dJ7_fill_d0a16_19 ?_
        rw [zfillL_up]
        exact ih (i + 1) (by omega)
  refine zr_iconst (v := nI 0) hB (by decide) dJ7_fill_d0a16_0 ?_
  refine zr_istore_n (lv' := [(3, .int (nI 0)), (0, .ref (ad ca)), (1, .long v)]) hB rfl (by decide) rfl dJ7_fill_d0a16_1 ?_
  refine zr_aload_n hB 1 rfl rfl dJ7_fill_d0a16_2 ?_
  refine zr_alenL hB hA dJ7_fill_d0a16_3 ?_
  refine zr_istore (lv' := [(4, .int (nI n)), (3, .int (nI 0)), (0, .ref (ad ca)), (1, .long v)]) hB (by decide) rfl dJ7_fill_d0a16_4 ?_
  refine zr_sub (lv' := [(3, .int (nI 0)), (4, .int (nI n)), (0, .ref (ad ca)), (1, .long v)]) [1, 0, 2, 3] rfl ?_
  have h0 := loop n 0 (by omega)
  rw [zfillL_0] at h0
  exact h0
