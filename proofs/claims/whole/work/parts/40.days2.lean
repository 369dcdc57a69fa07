/-! days, ahead, when -/
theorem aDay_rel {w : Nat} {I J : zI} (h : zRw w I J) : ∃ X Y, zit (gX6_passDays_15 1000 w) 1000 (0, I) = some X ∧ zit (gX8_aDay_2 1000) 1000 (0, J) = some Y ∧ zDy w I J X Y := by
  refine zit_rel (fun k s t => ∃ (j : Nat) (X Y : zI), j ≤ 4 ∧ k = 4 - j ∧ s = (nI j, X) ∧ t = (nI j, Y) ∧ zDy w I J X Y) (fun X Y => zDy w I J X Y) ?_ 1000 4 (0, I) (0, J) ⟨0, I, J, by omega, rfl, rfl, rfl, zDy.rf h⟩ (by omega)
  rintro k s t ⟨j, X, Y, hj, rfl, rfl, rfl, hd⟩
  have e12 : ∀ t : Option ((Int32 × zI) ⊕ zI), zg 12 120 t = t := fun t => zg_k (i := 12) t (by decide)
  have n12 : zn 12 = 12 := rfl
  obtain ⟨m, hm, e8⟩ := hd.1.2.folk
  have e7 : X w 8 = nI m := hd.1.people.trans e8
  unfold gX6_passDays_15 gX8_aDay_2
  simp only [e12, n12, e7, e8, zl_s, nI_1]
  by_cases q : m ≤ j
  · right
    rw [if_pos (nI_le q (by omega)), if_pos (nI_le q (by omega))]
    exact ⟨_, _, rfl, rfl, hd⟩
  · left
    rw [if_neg (zz_nle (by omega) (by omega)), if_neg (zz_nle (by omega) (by omega))]
    obtain ⟨X', Y', a1, a2, a3⟩ := dayW hd.1 (i := j) (by omega)
    rw [a1, a2, zb_s, zb_s]
    exact ⟨_, _, 4 - (j + 1), rfl, rfl, by omega, j + 1, _, _, by omega, rfl, rfl, rfl, hd.tr a3⟩
theorem day_up {w : Nat} {X Y : zI} (h : zRw w X Y) : zDy w X Y (zup X w 15 (X w 15 + 1)) (zup Y 51 15 (Y 51 15 + 1)) := by
  rw [h.day]
  exact ⟨zRw_up h (j := 15) (by omega) rfl (zok_free (by omega)) (by omega), fun c hc => zup_ne (by omega), fun c hc => zup_ne hc⟩
theorem aDay8 {J Y : zI} (h : zit (gX8_aDay_2 1000) 1000 (0, J) = some Y) : fX8_aDay 1000 J = some (zup Y 51 15 (Y 51 15 + 1)) := by
  have g : ∀ t : Option zI, zg 15 120 t = t := fun t => zg_k (i := 15) t (by decide)
  have n15 : zn 15 = 15 := rfl
  unfold fX8_aDay
  rw [h, zb_s, g, g, zl_s, n15]
theorem pass_step {w j n : Nat} {I J X Y : zI} (hj : j < n) (hn : n < 2 ^ 31) (hd : zDy w I J X Y) : ∃ X' Y', gX6_passDays_7 1000 w (nI n) (nI j, X) = some (.inl (nI (j + 1), X')) ∧ fX8_aDay 1000 Y = some Y' ∧ zDy w I J X' Y' := by
  obtain ⟨X1, Y1, a1, a2, a3⟩ := aDay_rel hd.1
  refine ⟨_, _, ?_, aDay8 a2, (hd.tr a3).tr (day_up a3.1)⟩
  unfold gX6_passDays_7
  simp only [zl_s, nI_1]
  rw [if_neg (zz_nle hn hj), a1, zb_s]
theorem days_rel {w n : Nat} {I J : zI} (h : zRw w I J) (hn : n < 61) : ∃ (v : Int32) (X Y : zI), fX6_passDays 1000 w (nI n) I = some (v, X) ∧ fX8_daysGo 1000 (nI n) J = some (v, Y) ∧ zDy w I J X Y := by
  have e14 : ∀ t : Option (Int32 × zI), zg 14 120 t = t := fun t => zg_k (i := 14) t (by decide)
  have n14 : zn 14 = 14 := rfl
  obtain ⟨X, Y, e1, e2, e3⟩ := zit_rel (g := gX6_passDays_7 1000 w (nI n)) (f := gX8_daysGo_10 1000 (nI n)) (fun k s t => ∃ (j : Nat) (X Y : zI), j ≤ n ∧ k = n - j ∧ s = (nI j, X) ∧ t = (nI j, Y) ∧ zDy w I J X Y) (fun X Y => zDy w I J X Y) (by
    rintro k s t ⟨j, X, Y, hj, rfl, rfl, rfl, hd⟩
    by_cases q : j = n
    · subst q
      right
      unfold gX6_passDays_7 gX8_daysGo_10
      refine ⟨X, Y, ?_, ?_, hd⟩
      · show (if nI j ≤ nI j then _ else _) = _
        rw [if_pos (Int32.le_refl _)]
      · show (if nI j ≤ nI j then _ else _) = _
        rw [if_pos (Int32.le_refl _)]
    · left
      obtain ⟨X', Y', a1, a2, a3⟩ := pass_step (n := n) (show j < n by omega) (by omega) hd
      refine ⟨_, (nI (j + 1), Y'), n - (j + 1), a1, ?_, by omega, j + 1, _, _, by omega, rfl, rfl, rfl, a3⟩
      unfold gX8_daysGo_10
      simp only [zl_s, nI_1]
      rw [if_neg (zz_nle (by omega) (by omega)), a2, zb_s]) 1000 n (0, I) (0, J) ⟨0, I, J, by omega, rfl, rfl, rfl, zDy.rf h⟩ (by omega)
  unfold fX6_passDays fX8_daysGo
  rw [zl_s, e14, n14, zl_s, e1, e2, zb_s, zb_s, e14]
  exact ⟨_, X, Y, rfl, by rw [← h.met, ← e3.1.met], e3⟩
theorem day_ok {I J : zI} (h : zRel I J) : I 1 15 = J 51 15 := h.1.day
theorem q_days (a : Int32) (I J : zI) (h : zRel I J) : ∃ r I' J', fX7_days 1000 a I = some (r, I') ∧ fX8_days 1000 a J = some (r, J') ∧ zRel I' J' ∧ zO7 I I' ∧ zO8 J J' := by
  have e15 : ∀ t : Option (Int32 × zI), zg 15 120 t = t := fun t => zg_k (i := 15) t (by decide)
  have n15 : zn 15 = 15 := rfl
  unfold fX7_days fX8_days
  simp only [within7, within8I, zb_s, zif, e15, n15]
  rw [show Int32.toInt 1 = 1 from rfl, show Int32.toInt 60 = 60 from rfl, show Int64.toInt 1 = 1 from rfl, show Int64.toInt 60 = 60 from rfl]
  by_cases ha : ¬ zbt 1 60 a
  · rw [zite_f ha, zite_f ha]; exact fin_leaf h 0
  replace ha := Classical.not_not.mp ha
  rw [zite_t ha, zite_t ha, day_ok h]
  obtain ⟨n, n1, n2, rfl⟩ := zbt_k (by omega) ha
  by_cases q : J 51 15 + nI n ≤ 9999
  · rw [if_pos q, if_pos q]
    obtain ⟨v, X, Y, a1, a2, a3⟩ := days_rel h.1 (n := n) (by omega)
    rw [a1, a2, zb_s, zb_s]
    exact ⟨_, _, _, rfl, rfl, zRel_w h a3.1 (fun c hc => a3.2.1 c (by omega)) (fun c hc => a3.2.2 c hc)⟩
  · rw [if_neg q, if_neg q]; exact fin_leaf h 4
theorem zRel_side {I J I' J' : zI} (h : zRel I J) (hI : ∀ c s : Nat, c ≤ 18 ∨ (c = 33 ∧ s = 1) ∨ c = 34 ∨ (41 ≤ c ∧ c < 50) → I' c s = I c s) (hr : ∀ k : Nat, k < 120 → J' 51 k = J 51 k) (hJ : ∀ c s : Nat, zcY c s → J' c s = J c s) : zRel I' J' := by
  refine zRel_world h ⟨fun k hk => ?_, zWF_congr h.wf hr⟩ (fun c s hc => hI c s (by unfold zcX at hc; omega)) hJ
  rw [hr k hk, ← h.1.1 k hk]
  unfold rW
  have := zcm_range (w := 1) hk
  exact hI _ _ (by omega)
theorem lend_rel {I J : zI} (h : zRel I J) : ∃ X J0, fX6_become 19 1 I = some X ∧ fX8_lends 1000 J = some J0 ∧ zRw 19 X J0 ∧ (∀ c, ¬ (19 ≤ c ∧ c ≤ 27) → X c = I c) ∧ (∀ c, c ≠ 53 → J0 c = J c) ∧ (∀ k, k < 120 → J0 53 k = J 51 k) := by
  obtain ⟨D, e1, hD⟩ := become6 (w := 19) (a := 1) (by omega) I
  obtain ⟨J0, e2, h1, h2⟩ := become8 (a := 51) (b := 53) J
  refine ⟨_, J0, e1, ?_, ⟨fun k hk => ?_, ?_⟩, fun c hc => zcp_out (by omega), h1, h2 (by decide)⟩
  · unfold fX8_lends
    rw [e2, zb_s]
  · rw [become_row hD hk, h1 51 (by decide)]
    exact h.1.1 k hk
  · rw [h1 51 (by decide)]; exact h.wf
theorem back_rel {I J J0 X Y : zI} (h : zRel I J) (h0 : ∀ c, c ≠ 53 → J0 c = J c) (h1 : ∀ k, k < 120 → J0 53 k = J 51 k) (hX : ∀ c, ¬ (19 ≤ c ∧ c ≤ 27) → X c = I c) (hY : ∀ c, c ≠ 51 → Y c = J0 c) : ∃ J2, fX8_laysBack 1000 Y = some J2 ∧ zRel X J2 ∧ zO7 I X ∧ zO8 J J2 := by
  obtain ⟨J2, e, g1, g2⟩ := become8 (a := 53) (b := 51) Y
  have hc : ∀ c : Nat, c ≠ 51 → c ≠ 53 → J2 c = J c := fun c c1 c2 => (g1 c c1).trans ((hY c c1).trans (h0 c c2))
  refine ⟨J2, ?_, zRel_side h (fun c s hc => ?_) (fun k hk => ?_) (fun c s hy => ?_), fun c hc => hX c (by omega), fun c hc2 => hc c (by omega) (by omega)⟩
  · unfold fX8_laysBack
    rw [e, zb_s]
  · rw [hX c (by omega)]
  · rw [g2 (by decide) k hk, hY 53 (by decide), h1 k hk]
  · rw [hc c (by unfold zcY at hy; omega) (by unfold zcY at hy; omega)]
theorem thing_1 {m : Nat} {a : Int32} (h : zlt m (a - 1)) : ∃ t : Nat, t < m ∧ a = nI (t + 1) := by
  obtain ⟨t, ht, e⟩ := h
  refine ⟨t, ht, ?_⟩
  rw [← nI_1, ← e, Int32.sub_add_cancel]
theorem q_ahead (a b : Int32) (I J : zI) (h : zRel I J) : ∃ r I' J', fX7_ahead 1000 a b I = some (r, I') ∧ fX8_ahead 1000 a b J = some (r, J') ∧ zRel I' J' ∧ zO7 I I' ∧ zO8 J J' := by
  have e15 : ∀ t : Option (Int32 × zI), zg 15 120 t = t := fun t => zg_k (i := 15) t (by decide)
  have n15 : zn 15 = 15 := rfl
  obtain ⟨m, hm, t8, t7⟩ := h.many
  unfold fX7_ahead fX8_ahead
  simp only [within7, within8I, thing7 _ t7 hm, thing8 _ t8 hm, zb_s, zif, e15, n15]
  rw [show Int32.toInt 0 = 0 from rfl, show Int32.toInt 60 = 60 from rfl, show Int64.toInt 0 = 0 from rfl, show Int64.toInt 60 = 60 from rfl]
  by_cases ha : ¬ zbt 0 60 a
  · rw [zite_f ha, zite_f ha]; exact fin_leaf h 0
  replace ha := Classical.not_not.mp ha
  rw [zite_t ha, zite_t ha, day_ok h]
  obtain ⟨n, n1, n2, rfl⟩ := zbt_k (by omega) ha
  obtain ⟨X, J0, b1, b2, b3, b4, b5, b6⟩ := lend_rel h
  obtain ⟨v, X', Y', a1, a2, a3⟩ := days_rel b3 (n := n) (by omega)
  obtain ⟨J2, c1, c2, c3, c4⟩ := back_rel (X := X') (Y := Y') h b5 b6 (fun c hc => (a3.2.1 c (by omega)).trans (b4 c hc)) a3.2.2
  by_cases hb : b = 0
  · rw [if_pos hb, if_pos hb, zbs_r, zbs_r]
    by_cases q : J 51 15 + nI n ≤ 9999
    · rw [if_pos q, if_pos q, b1, b2, zb_s, zb_s, a1, a2, zb_s, zb_s, if_pos hb, if_pos hb, c1, zb_s]
      exact ⟨_, _, _, rfl, rfl, c2, c3, c4⟩
    · rw [if_neg q, if_neg q]; exact fin_leaf h 4
  · rw [if_neg hb, if_neg hb]
    by_cases hc : ¬ zlt m (b - 1)
    · rw [zite_f hc, zite_f hc, zbs_fin, zbs_fin]; exact fin_leaf h 0
    replace hc := Classical.not_not.mp hc
    rw [zite_t hc, zite_t hc, zbs_r, zbs_r]
    by_cases q : J 51 15 + nI n ≤ 9999
    · rw [if_pos q, if_pos q, b1, b2, zb_s, zb_s, a1, a2, zb_s, zb_s, if_neg hb, if_neg hb, c1]
      obtain ⟨t, ht, rfl⟩ := thing_1 hc
      have ht8 : t < 8 := by omega
      rw [nI_pred, zg_k _ ht8, zn_k (show t < 2 ^ 31 by omega), show (36 : Int32) + nI (t + 1) - 1 = nI (36 + t) by
        rw [show (36 : Int32) + nI (t + 1) = nI (36 + t + 1) from nI_add 36 (t + 1), nI_pred], zg_k _ (show 36 + t < 120 by omega), zn_k (show 36 + t < 2 ^ 31 by omega), zl_s, zb_s]
      dsimp only
      rw [show X' 22 t = _ from a3.1.room ht8]
      exact ⟨_, _, _, rfl, rfl, c2, c3, c4⟩
    · rw [if_neg q, if_neg q]; exact fin_leaf h 4
theorem pass_one {w : Nat} {I J X Y : zI} (hd : zDy w I J X Y) : ∃ (v : Int32) (X' Y' : zI), fX6_passDays 1000 w 1 X = some (v, X') ∧ fX8_aDay 1000 Y = some Y' ∧ zDy w I J X' Y' := by
  obtain ⟨X', Y', a1, a2, a3⟩ := pass_step (j := 0) (n := 1) (by omega) (by omega) hd
  have e2 : gX6_passDays_7 1000 w (nI 1) (nI (0 + 1), X') = some (.inr X') := by
    unfold gX6_passDays_7
    show (if nI 1 ≤ nI 1 then _ else _) = _
    rw [if_pos (Int32.le_refl _)]
  have e : zit (gX6_passDays_7 1000 w 1) 1000 (0, X) = some X' := (zit_l (n := 999) a1).trans (zit_r (n := 998) e2)
  unfold fX6_passDays
  rw [zl_s, e, zb_s]
  exact ⟨_, _, _, rfl, a2, a3⟩
theorem q_when (a b : Int32) (I J : zI) (h : zRel I J) : ∃ r I' J', fX7_when 1000 a b I = some (r, I') ∧ fX8_when 1000 a b J = some (r, J') ∧ zRel I' J' ∧ zO7 I I' ∧ zO8 J J' := by
  have e15 : ∀ t : Option (Int32 × zI), zg 15 120 t = t := fun t => zg_k (i := 15) t (by decide)
  have n15 : zn 15 = 15 := rfl
  obtain ⟨m, hm, t8, t7⟩ := h.many
  unfold fX7_when fX8_when
  simp only [thing7 _ t7 hm, thing8 _ t8 hm, room7, room8, zb_s, zif, e15, n15]
  by_cases ha : ¬ zlt m a
  · rw [zite_f ha, zite_f ha]; exact fin_leaf h 0
  replace ha := Classical.not_not.mp ha
  rw [zite_t ha, zite_t ha]
  by_cases hb : ¬ zlt 8 b
  · rw [zite_f hb, zite_f hb]; exact fin_leaf h 0
  replace hb := Classical.not_not.mp hb
  rw [zite_t hb, zite_t hb, day_ok h]
  by_cases q : ¬ J 51 15 ≤ 9939
  · rw [if_neg q, if_neg q]; exact fin_leaf h 4
  replace q := Classical.not_not.mp q
  rw [if_pos q, if_pos q]
  obtain ⟨t, ht, rfl⟩ := ha
  have ht8 : t < 8 := by omega
  obtain ⟨X, J0, b1, b2, b3, b4, b5, b6⟩ := lend_rel h
  rw [b1, b2, zb_s, zb_s]
  obtain ⟨r, u, e1, e2, e3⟩ := zit_rel (g := gX7_when_55 1000 (nI t) b) (f := gX8_when_46 1000 (nI t) b) (fun k s t => ∃ (j : Nat) (X1 Y : zI), j ≤ 61 ∧ k = 61 - j ∧ s = (nI j, X1) ∧ t = (nI j, Y) ∧ (∀ c, ¬ (19 ≤ c ∧ c ≤ 27) → X1 c = X c) ∧ ∃ X2, (if nI j ≤ 0 then some X1 else zb (fX6_passDays 1000 19 1 X1) fun o26 => some o26.2) = some X2 ∧ zDy 19 X J0 X2 Y) (fun r u => (∃ (j : Nat) (X1 Y : zI), j ≤ 60 ∧ r = .inl (nI j, X1) ∧ u = (nI j, Y) ∧ zDy 19 X J0 X1 Y) ∨ (∃ (X1 X2 Y : zI), r = .inr X1 ∧ u = (nI 61, Y) ∧ (∀ c, ¬ (19 ≤ c ∧ c ≤ 27) → X1 c = X c) ∧ zDy 19 X J0 X2 Y)) (by
    rintro k s u ⟨j, X1, Y, hj, rfl, rfl, rfl, hf, X2, hx, hd⟩
    unfold gX7_when_55 gX8_when_46
    simp only [zl_s, nI_1]
    by_cases qj : j = 61
    · subst qj
      right
      rw [if_pos (show (60 : Int32) < nI 61 by decide), if_pos (show (60 : Int32) < nI 61 by decide)]
      exact ⟨_, _, rfl, rfl, Or.inr ⟨X1, X2, Y, rfl, rfl, hf, hd⟩⟩
    · rw [if_neg (show ¬ (60 : Int32) < nI j from nI_nlt (b := j) (a := 60) (by omega) (by omega)), if_neg (show ¬ (60 : Int32) < nI j from nI_nlt (b := j) (a := 60) (by omega) (by omega)), hx, zb_s]
      rw [show (36 : Int32) + nI t = nI (36 + t) from nI_add 36 t, zg_k _ ht8, zg_k _ (show 36 + t < 120 by omega), zn_k (show t < 2 ^ 31 by omega), zn_k (show 36 + t < 2 ^ 31 by omega), show X2 22 t = _ from hd.1.room ht8]
      by_cases qr : Y 51 (36 + t) = b
      · right
        rw [if_pos qr, if_pos qr]
        exact ⟨_, _, rfl, rfl, Or.inl ⟨j, X2, Y, by omega, rfl, rfl, hd⟩⟩
      · left
        rw [if_neg qr, if_neg qr]
        obtain ⟨v, X3, Y3, a1, a2, a3⟩ := pass_one hd
        rw [a2, zb_s]
        refine ⟨_, _, 61 - (j + 1), rfl, rfl, by omega, j + 1, X2, Y3, by omega, rfl, rfl, rfl, fun c hc => hd.2.1 c (by omega), X3, ?_, a3⟩
        rw [if_neg (nI_nle (by omega) (by omega)), a1, zb_s]) 1000 61 (0, X) (0, J0) ⟨0, X, J0, by omega, rfl, rfl, rfl, fun _ _ => rfl, X, if_pos (Int32.le_refl _), zDy.rf b3⟩ (by omega)
  rw [e1, e2, zb_s]
  rcases e3 with ⟨j, X1, Y, hj, rfl, rfl, hd⟩ | ⟨X1, X2, Y, rfl, rfl, hf, hd⟩
  · obtain ⟨J2, c1, c2, c3, c4⟩ := back_rel (X := X1) (Y := Y) h b5 b6 (fun c hc => (hd.2.1 c (by omega)).trans (b4 c hc)) hd.2.2
    rw [zbs_l, c1, zb_s, if_neg (show ¬ (60 : Int32) < nI j from nI_nlt (b := j) (a := 60) (by omega) (by omega))]
    exact ⟨_, _, _, rfl, rfl, c2, c3, c4⟩
  · obtain ⟨J2, c1, c2, c3, c4⟩ := back_rel (X := X1) (Y := Y) h b5 b6 (fun c hc => (hf c hc).trans (b4 c hc)) hd.2.2
    rw [zbs_r, c1, zb_s, if_pos (show (60 : Int32) < nI 61 by decide)]
    obtain ⟨r, I', J', f1, f2, f3, f4, f5⟩ := fin_leaf c2 3
    exact ⟨r, I', J', f1, f2, f3, c3.tr f4, c4.tr f5⟩
