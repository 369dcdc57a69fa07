/-! opens -/
theorem zdr_back : ∀ d : Nat, d < 256 → ∀ b : Nat, b < 8 → ¬ (zshr (nI d) (nI b) &&& 1 = 1) → (nI d ||| zshl 1 (nI b)) &&& (zshl 1 (nI b) ^^^ (-1)) = nI d := by decide +kernel
theorem zdr_10 {d : Int32} {b : Nat} (hd : zlt 256 d) (hb : b < 8) (h : ¬ (zshr d (nI b) &&& 1 = 1)) : zdr 0 (zdr 1 d (nI b)) (nI b) = d := by
  obtain ⟨d, h1, rfl⟩ := hd
  unfold zdr
  rw [if_pos rfl, if_neg (by decide)]
  exact zdr_back d h1 b hb h
/-- the row when a door has become open (1) or shut (0) -/
def zdo (v : Int32) (S : Nat → Int32) (a b : Nat) : Nat → Int32 := upd (upd S a (zdr v (S a) (nI b))) b (zdr v (upd S a (zdr v (S a) (nI b)) b) (nI a))
theorem zdo_back {S : Nat → Int32} (h : zWF S) {a b : Nat} (ha : a < 8) (hb : b < 8) (hab : a ≠ b) (hn : ¬ zop S a b) : zdo 0 (zdo 1 S a b) a b = S := by
  have hn2 : ¬ zop S b a := by
    unfold zop at hn ⊢
    rw [← h.2.2 a b ha hb]
    exact hn
  have e1 : zdo 1 S a b a = zdr 1 (S a) (nI b) := by
    unfold zdo upd
    rw [if_neg hab, if_pos rfl]
  have e2 : zdo 1 S a b b = zdr 1 (S b) (nI a) := by
    unfold zdo upd
    rw [if_pos rfl, if_neg (fun z => hab z.symm)]
  have e3 : ∀ k : Nat, k ≠ a → k ≠ b → zdo 1 S a b k = S k := fun k h1 h2 => by
    unfold zdo upd
    rw [if_neg h2, if_neg h1]
  generalize zdo 1 S a b = T at e1 e2 e3 ⊢
  funext k
  unfold zdo upd
  by_cases z : k = b
  · rw [if_pos z, if_neg (fun y => hab y.symm), z, e2]
    exact zdr_10 (h.door hb) ha hn2
  · rw [if_neg z]
    by_cases z2 : k = a
    · rw [if_pos z2, z2, e1]
      exact zdr_10 (h.door ha) hb hn
    · rw [if_neg z2]; exact e3 k z2 z
theorem door8_row {Y : zI} {a b : Nat} {v : Int32} : zup (zup Y 51 a (zdr v (Y 51 a) (nI b))) 51 b (zdr v (zup Y 51 a (zdr v (Y 51 a) (nI b)) 51 b) (nI a)) 51 = zdo v (Y 51) a b := by
  rw [zup_same, zup_same]
  rfl
/-- what the loops of opens keep -/
def zTo (I J : zI) (b f : Int32) (X Y : zI) : Prop := zBs b f ∧ Y 50 11 = b ∧ Y 50 12 = f ∧ zRw 19 X Y ∧ (∀ c : Nat, ¬ (19 ≤ c ∧ c ≤ 32) → X c = I c) ∧ Y 51 = J 51 ∧ zSd J Y
theorem opens_step {I J X Y : zI} {M : zL} {b f : Int32} {i t r a j : Nat} {s6 : Int32 × Int32 × Int32 × zI × zL} {Y6 : zI} (h : zRel I J) (hi : i < 4) (ht : t < 8) (hr : r < 8) (ha : a < 8) (hj : j < 8) (haj : a < j) (h6 : s6.2.2.1 = nI a) (hT : zTo I J b f X Y) : ∃ (b' f' : Int32) (X' : zI) (M' : zL) (Y' : zI), gX7_opens_50 1000 (nI i) (nI t) (nI r) s6 (b, f, nI j, X, M) = some (.inl (b', f', nI (j + 1), X', M')) ∧ gX8_opens_36 1000 (nI i) (nI t) (nI r) (nI a, Y6) (nI j, Y) = some (.inl (nI (j + 1), Y')) ∧ zTo I J b' f' X' Y' := by
  obtain ⟨h1, h2, h3, h4, h5, h6', h7⟩ := hT
  have hw1 : zRw 1 X Y := by
    refine ⟨fun k hk => ?_, h4.2⟩
    have := zcm_range (w := 1) hk
    have e := h.1.1 k hk
    unfold rW at e ⊢
    rw [h5 _ (by omega), e, h6']
  unfold gX7_opens_50 gX8_opens_36
  dsimp only
  rw [h6, if_neg (show ¬ (8 : Int32) ≤ nI j from zz_nle (b := 8) (by omega) hj), if_neg (show ¬ (8 : Int32) ≤ nI j from zz_nle (b := 8) (by omega) hj), isOpen6 hw1 ha, isOpen8 ha, zb_s, zb_s, zif, zif, nI_1]
  by_cases ho : zop (Y 51) a j
  · rw [zite_t (show zshr (Y 51 a) (nI j) &&& 1 = 1 from ho), zite_t (show zshr (Y 51 a) (nI j) &&& 1 = 1 from ho), zb_s]
    dsimp only
    rw [fewer7, zb_s, zif, zite_f (fun z => z.1 rfl), zl_s, zl_s]
    exact ⟨b, f, X, M, Y, rfl, rfl, h1, h2, h3, h4, h5, h6', h7⟩
  · rw [zite_f (show ¬ zshr (Y 51 a) (nI j) &&& 1 = 1 from ho), zite_f (show ¬ zshr (Y 51 a) (nI j) &&& 1 = 1 from ho)]
    unfold fX7_stepsWithDoor
    rw [setDoor6 ha hj, opensDoor8 ha hj, zb_s, zb_s]
    have d1 := zRw_door h4 ha hj 1
    have r1 := door8_row (Y := Y) (a := a) (b := j) (v := 1)
    have f1 : ∀ c : Nat, ¬ (19 ≤ c ∧ c ≤ 32) → zup (zup X (19 + 1) a (zdr 1 (X (19 + 1) a) (nI j))) (19 + 1) j (zdr 1 (zup X (19 + 1) a (zdr 1 (X (19 + 1) a) (nI j)) (19 + 1) j) (nI a)) c = I c := fun c hc => (zup_ne (by omega)).trans ((zup_ne (by omega)).trans (h5 c hc))
    have s1 : zSd J (zup (zup Y 51 a (zdr 1 (Y 51 a) (nI j))) 51 j (zdr 1 (zup Y 51 a (zdr 1 (Y 51 a) (nI j)) 51 j) (nI a))) := h7.tr (zSd.up.tr zSd.up)
    have t1 : zup (zup Y 51 a (zdr 1 (Y 51 a) (nI j))) 51 j (zdr 1 (zup Y 51 a (zdr 1 (Y 51 a) (nI j)) 51 j) (nI a)) 50 11 = b := (zup_r (by omega)).trans ((zup_r (by omega)).trans h2)
    have t2 : zup (zup Y 51 a (zdr 1 (Y 51 a) (nI j))) 51 j (zdr 1 (zup Y 51 a (zdr 1 (Y 51 a) (nI j)) 51 j) (nI a)) 50 12 = f := (zup_r (by omega)).trans ((zup_r (by omega)).trans h3)
    generalize zup (zup X (19 + 1) a (zdr 1 (X (19 + 1) a) (nI j))) (19 + 1) j (zdr 1 (zup X (19 + 1) a (zdr 1 (X (19 + 1) a) (nI j)) (19 + 1) j) (nI a)) = X1 at d1 f1 ⊢
    generalize zup (zup Y 51 a (zdr 1 (Y 51 a) (nI j))) 51 j (zdr 1 (zup Y 51 a (zdr 1 (Y 51 a) (nI j)) 51 j) (nI a)) = Y1 at d1 r1 s1 t1 t2 ⊢
    obtain ⟨p0, hp, ep⟩ := d1.2.place hi
    obtain ⟨r0, hr0, er⟩ := d1.2.room ht
    obtain ⟨v, X2, M2, Y2, a1, a2, a3, a4, a5⟩ := few_both (L := M) (w := 19) (by omega) d1 hi ht hr hp hr0 ep er
    obtain ⟨Y3, b1, b2, b3, b4, b5⟩ := tries8 (x := nI (10 * a + j)) (Y := Y2) h1 (zLe_val a5) ((a4 50 11 (by omega) (by omega) (by omega)).trans t1) ((a4 50 12 (by omega) (by omega) (by omega)).trans t2)
    have d2 : zRw 19 X2 Y3 := zRw_congr d1 (fun c c1 c2 => a3 c (by omega)) (b4.trans a4.row)
    have d3 := zRw_door d2 ha hj 0
    rw [a1, a2, zb_s, zb_s]
    dsimp only
    rw [show (10 : Int32) * nI a + nI j = nI (10 * a + j) by rw [show (10 : Int32) * nI a = nI (10 * a) from pk_mul 10 a, nI_add], b1, setDoor6 ha hj]
    simp only [zb_s]
    rw [opensDoor8 ha hj, zb_s, fewer7, zb_s, zif, zl_s, zl_s, zl_s, zl_s]
    refine ⟨zite (zFe v f) (nI (10 * a + j)) b, zite (zFe v f) v f, _, M2, _, ?_, rfl, zBs_new h1 (zLe_val a5) (by omega), (zup_r (by omega)).trans ((zup_r (by omega)).trans b2), (zup_r (by omega)).trans ((zup_r (by omega)).trans b3), d3, fun c hc => (zup_ne (by omega)).trans ((zup_ne (by omega)).trans ((a3 c (by omega)).trans (f1 c hc))), ?_, s1.tr (a4.sd.tr (b5.tr (zSd.up.tr zSd.up)))⟩
    · by_cases z : zFe v f
      · rw [zite_t z, zite_t z, zite_t z]
      · rw [zite_f z, zite_f z, zite_f z]
    · rw [door8_row, b4, a4.row, r1, zdo_back h4.2 ha hj (by omega) ho]
      exact h6'
theorem opens_row {I J X Y : zI} {M : zL} {b f : Int32} {i t r a : Nat} {s6 : Int32 × Int32 × Int32 × zI × zL} {Y6 : zI} (h : zRel I J) (hi : i < 4) (ht : t < 8) (hr : r < 8) (ha : a < 8) (h6 : s6.2.2.1 = nI a) (hT : zTo I J b f X Y) : ∃ (b' f' : Int32) (X' : zI) (M' : zL) (Y' : zI), zit (gX7_opens_50 1000 (nI i) (nI t) (nI r) s6) 1000 (b, f, nI (a + 1), X, M) = some (b', f', X', M') ∧ zit (gX8_opens_36 1000 (nI i) (nI t) (nI r) (nI a, Y6)) 1000 (nI (a + 1), Y) = some Y' ∧ zTo I J b' f' X' Y' := by
  obtain ⟨⟨b', f', X', M'⟩, Y', e1, e2, e3⟩ := zit_rel (g := gX7_opens_50 1000 (nI i) (nI t) (nI r) s6) (f := gX8_opens_36 1000 (nI i) (nI t) (nI r) (nI a, Y6)) (fun k x y => ∃ (j : Nat) (b f : Int32) (X : zI) (M : zL) (Y : zI), a < j ∧ j ≤ 8 ∧ k = 8 - j ∧ x = (b, f, nI j, X, M) ∧ y = (nI j, Y) ∧ zTo I J b f X Y) (fun (x : Int32 × Int32 × zI × zL) (y : zI) => zTo I J x.1 x.2.1 x.2.2.1 y) (by
    rintro k x y ⟨j, b, f, X, M, Y, haj, hj, rfl, rfl, rfl, hT⟩
    by_cases q : j = 8
    · subst q
      right
      unfold gX7_opens_50 gX8_opens_36
      dsimp only
      rw [if_pos (show (8 : Int32) ≤ nI 8 from Int32.le_refl _), if_pos (show (8 : Int32) ≤ nI 8 from Int32.le_refl _)]
      exact ⟨_, _, rfl, rfl, hT⟩
    · left
      obtain ⟨b', f', X', M', Y', f1, f2, f3⟩ := opens_step (M := M) (s6 := s6) (Y6 := Y6) h hi ht hr ha (show j < 8 by omega) haj h6 hT
      exact ⟨_, _, 8 - (j + 1), f1, f2, by omega, j + 1, b', f', X', M', Y', by omega, by omega, rfl, rfl, rfl, f3⟩) 1000 (8 - (a + 1)) (b, f, nI (a + 1), X, M) (nI (a + 1), Y) ⟨a + 1, b, f, X, M, Y, by omega, by omega, by omega, rfl, rfl, hT⟩ (by omega)
  exact ⟨b', f', X', M', Y', e1, e2, e3⟩
theorem q_opens (a b c : Int32) (I J : zI) (L : zL) (h : zRel I J) : ∃ r I' L' J', fX7_opens 1000 a b c I L = some (r, I', L') ∧ fX8_opens 1000 a b c J = some (r, J') ∧ zRel I' J' ∧ zO7 I I' ∧ zO8 J J' := by
  obtain ⟨m, hm, e8, e7⟩ := h.folk
  obtain ⟨n, hn, t8, t7⟩ := h.many
  unfold fX7_opens fX8_opens
  rw [isTask7 e7 hm t7 hn, isTask8 e8 hm t8 hn, zb_s, zb_s, zif, zif]
  by_cases q : ¬ (zlt m a ∧ zlt n b ∧ zlt 8 c)
  · rw [zite_f q, zite_f q]; exact fin_leafS h 0
  replace q := Classical.not_not.mp q
  rw [zite_t q, zite_t q]
  obtain ⟨⟨i, hi, rfl⟩, ⟨t, ht, rfl⟩, ⟨r, hr, rfl⟩⟩ := q
  obtain ⟨X0, x1, x2, x3⟩ := trial_rel h
  obtain ⟨Y0, y1, y2, y3, y4, y5⟩ := begins8 J
  rw [x1, zb_s, y1, zb_s]
  obtain ⟨⟨bb, I', L'⟩, Y', e1, e2, ff, e3⟩ := zit_rel (g := gX7_opens_37 1000 (nI i) (nI t) (nI r)) (f := gX8_opens_23 1000 (nI i) (nI t) (nI r)) (fun k x y => ∃ (j : Nat) (b f : Int32) (X : zI) (M : zL) (Y : zI), j ≤ 8 ∧ k = 8 - j ∧ x = (b, f, nI j, X, M) ∧ y = (nI j, Y) ∧ zTo I J b f X Y) (fun (x : Int32 × zI × zL) (y : zI) => ∃ f : Int32, zTo I J x.1 f x.2.1 y) (by
    rintro k x y ⟨j, b, f, X, M, Y, hj, rfl, rfl, rfl, hT⟩
    unfold gX7_opens_37 gX8_opens_23
    dsimp only
    by_cases q : j = 8
    · subst q
      right
      rw [if_pos (show (8 : Int32) ≤ nI 8 from Int32.le_refl _), if_pos (show (8 : Int32) ≤ nI 8 from Int32.le_refl _)]
      exact ⟨_, _, rfl, rfl, f, hT⟩
    left
    have hj2 : j < 8 := by omega
    obtain ⟨b', f', X', M', Y', f1, f2, f3⟩ := opens_row (M := M) (s6 := (b, f, nI j, X, M)) (Y6 := Y) h (show i < 4 by omega) (show t < 8 by omega) hr hj2 rfl hT
    rw [if_neg (show ¬ (8 : Int32) ≤ nI j from zz_nle (b := 8) (by omega) hj2), if_neg (show ¬ (8 : Int32) ≤ nI j from zz_nle (b := 8) (by omega) hj2), nI_1, zl_s, zl_s, f1, f2, zb_s, zb_s, zl_s, zl_s]
    exact ⟨_, _, 8 - (j + 1), rfl, rfl, by omega, j + 1, b', f', X', M', Y', by omega, rfl, rfl, rfl, f3⟩) 1000 8 ((-1), (-1), 0, X0, L) (0, Y0) ⟨0, -1, -1, X0, L, Y0, by omega, rfl, rfl, rfl, Or.inl ⟨rfl, rfl⟩, y2, y3, zRw_congr x2 (fun _ _ _ => rfl) y4, fun c hc => x3 c (by omega), y4, y5⟩ (by omega)
  rw [e1, e2, zb_s, zb_s]
  obtain ⟨h1, h2, h3, h4, h5, h6, h7⟩ := e3
  dsimp only at h1 h2 h5 ⊢
  rw [h2]
  exact none_leafS (zBs_val h1) (side_rel h h5 (fun k _ => by rw [h6]) h7)
