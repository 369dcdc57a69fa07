/-! carrying and reaching: the booking -/
theorem enter6 {w b : Nat} {I : zI} (hb : I w 13 = nI b) (hb2 : b < 13) (a t f r v : Int32) : ∃ I', fX6_enter w a t f r v I = some I' ∧ ∀ c s : Nat, I' c s = if c = w ∧ s = 12 then I w 12 + v else if c = w ∧ s = 11 then I w 11 + 1 else if c = w ∧ s = 13 then nI (if b < 12 then b + 1 else 12) else if c = w + 7 ∧ s = 0 then a else if c = w + 7 ∧ s = 1 then t else if c = w + 7 ∧ s = 2 then f else if c = w + 7 ∧ s = 3 then r else if c = w + 7 ∧ s = 4 then v else if c = w + 7 ∧ 5 ≤ s ∧ s < 60 then I (w + 7) (s - 5) else I c s := by
  have g : ∀ t : Option zI, zgc 0 5 55 60 60 t = t := fun t => by unfold zgc; rw [if_pos (by decide)]
  have g0 : ∀ t : Option zI, zg 0 60 t = t := fun t => zg_k (i := 0) t (by decide)
  have g1 : ∀ t : Option zI, zg 1 60 t = t := fun t => zg_k (i := 1) t (by decide)
  have g2 : ∀ t : Option zI, zg 2 60 t = t := fun t => zg_k (i := 2) t (by decide)
  have g3 : ∀ t : Option zI, zg 3 60 t = t := fun t => zg_k (i := 3) t (by decide)
  have g4 : ∀ t : Option zI, zg 4 60 t = t := fun t => zg_k (i := 4) t (by decide)
  have n0 : zn 0 = 0 := rfl
  have n1 : zn 1 = 1 := rfl
  have n2 : zn 2 = 2 := rfl
  have n3 : zn 3 = 3 := rfl
  have n4 : zn 4 = 4 := rfl
  have n5 : zn 5 = 5 := rfl
  have n55 : zn 55 = 55 := rfl
  unfold fX6_enter
  simp only [g, g0, g1, g2, g3, g4, n0, n1, n2, n3, n4, n5, n55, zl_s]
  have hz : ∀ (I : zI) (k : Nat) (x : Int32) (s : Nat), zup I (w + 7) k x w s = I w s := fun I k x s => zup_r (by omega)
  have hs : ∀ (f : Nat → Int32) (s : Nat), zset I (w + 7) f w s = I w s := fun f s => by unfold zset; rw [if_neg (by omega)]
  simp only [hz, hs, hb]
  have hsh : ∀ c s : Nat, zset I (w + 7) (va_cpy (I (w + 7)) (I (w + 7)) 0 5 55) c s = if c = w + 7 ∧ 5 ≤ s ∧ s < 60 then I (w + 7) (s - 5) else I c s := by
    intro c s
    unfold zset
    by_cases q : c = w + 7
    · rw [if_pos q]
      by_cases q2 : 5 ≤ s ∧ s < 60
      · rw [if_pos ⟨q, q2⟩, pk_cpy_in q2.1 (by omega), Nat.zero_add]
      · rw [if_neg (fun z => q2 z.2), pk_cpy_out (by omega), q]
    · rw [if_neg q, if_neg (fun z => q z.1)]
  by_cases q : b < 12
  · rw [if_neg (show ¬ (12 : Int32) ≤ nI b from zz_nle (b := 12) (by omega) q), if_pos q]
    refine ⟨_, rfl, fun c s => ?_⟩
    rw [zup_r (a := w) (b := 11) (s := 13) (by omega), zup_r (a := w) (b := 12) (s := 11) (by omega), zup_r (a := w) (b := 12) (s := 13) (by omega)]
    simp only [zup_at, hsh, hz, hs, nI_1]
    repeat' split
    all_goals first | rfl | omega
  · have hb12 : b = 12 := by omega
    rw [if_pos (show (12 : Int32) ≤ nI b by rw [hb12]; decide), if_neg q]
    refine ⟨_, rfl, fun c s => ?_⟩
    rw [zup_r (a := w) (b := 12) (s := 11) (by omega)]
    simp only [zup_at, hsh, hz, hs]
    have e13 : ∀ (_ : c = w ∧ s = 13), I c s = nI 12 := by
      rintro ⟨rfl, rfl⟩; rw [hb, hb12]
    repeat' split
    all_goals first | rfl | omega | (exact e13 (by omega))
theorem nI_s5 (a : Nat) : nI (a + 5) - 5 = nI a := by
  rw [← show nI a + (5 : Int32) = nI (a + 5) from nI_add a 5, Int32.add_sub_cancel]
theorem brings8 {b t : Nat} {J : zI} (hb : J 51 17 = nI b) (hb2 : b < 13) (ht : t < 8) (a r v : Int32) : ∃ J', fX8_brings 1000 a (nI t) r v J = some (v, J') ∧ ∀ c s : Nat, J' c s = if c = 51 ∧ s = 14 then J 51 14 + v else if c = 51 ∧ s = 13 then J 51 13 + 1 else if c = 51 ∧ s = 36 + t then r else if c = 51 ∧ s = 17 then nI (if b < 12 then b + 1 else 12) else if c = 51 ∧ s = 60 then a else if c = 51 ∧ s = 61 then nI t else if c = 51 ∧ s = 62 then J 51 (36 + t) else if c = 51 ∧ s = 63 then r else if c = 51 ∧ s = 64 then v else if c = 51 ∧ 65 ≤ s ∧ s < 120 then J 51 (s - 5) else J c s := by
  have g : ∀ (k : Nat) (_ : k < 120) (t : Option (Int32 × zI)), zg (nI k) 120 t = t := fun k hk t => zg_k t hk
  have g60 : ∀ t : Option (Int32 × zI), zg 60 120 t = t := g 60 (by decide)
  have g61 : ∀ t : Option (Int32 × zI), zg 61 120 t = t := g 61 (by decide)
  have g62 : ∀ t : Option (Int32 × zI), zg 62 120 t = t := g 62 (by decide)
  have g63 : ∀ t : Option (Int32 × zI), zg 63 120 t = t := g 63 (by decide)
  have g64 : ∀ t : Option (Int32 × zI), zg 64 120 t = t := g 64 (by decide)
  have g17 : ∀ t : Option (Int32 × zI), zg 17 120 t = t := g 17 (by decide)
  have g13 : ∀ t : Option (Int32 × zI), zg 13 120 t = t := g 13 (by decide)
  have g14 : ∀ t : Option (Int32 × zI), zg 14 120 t = t := g 14 (by decide)
  have n60 : zn 60 = 60 := rfl
  have n61 : zn 61 = 61 := rfl
  have n62 : zn 62 = 62 := rfl
  have n63 : zn 63 = 63 := rfl
  have n64 : zn 64 = 64 := rfl
  have n17 : zn 17 = 17 := rfl
  have n13 : zn 13 = 13 := rfl
  have n14 : zn 14 = 14 := rfl
  obtain ⟨X, e1, hX⟩ := zit_one (g := gX8_brings_4) (fun k s => ∃ (j : Nat) (Y : zI), 4 ≤ j ∧ j < 60 ∧ k = j - 4 ∧ s = (nI j, Y) ∧ ∀ c s : Nat, Y c s = if c = 51 ∧ 60 + j < s ∧ s < 120 then J 51 (s - 5) else J c s) (fun X => ∀ c s : Nat, X c s = if c = 51 ∧ 65 ≤ s ∧ s < 120 then J 51 (s - 5) else J c s) (by
    rintro k s ⟨j, Y, hj, hj2, rfl, rfl, hY⟩
    unfold gX8_brings_4
    by_cases q : j = 4
    · subst q
      right
      rw [if_pos (show nI 4 < 5 by decide)]
      exact ⟨Y, rfl, fun c s => hY c s⟩
    · left
      obtain ⟨x, rfl⟩ : ∃ x, j = x + 5 := ⟨j - 5, by omega⟩
      rw [if_neg (show ¬ nI (x + 5) < 5 from Int32.not_lt.mpr (show nI 5 ≤ nI (x + 5) from Int32.not_lt.mp (fun z => by
        have := Int32.lt_iff_toInt_lt.mp z
        rw [nI_toInt (by omega), nI_toInt (by omega)] at this
        omega)))]
      rw [show (60 : Int32) + nI (x + 5) = nI (60 + x + 5) from nI_add 60 (x + 5), nI_s5, zg_k _ (show 60 + x < 120 by omega), zg_k _ (show 60 + x + 5 < 120 by omega), zn_k (show 60 + x < 2 ^ 31 by omega), zn_k (show 60 + x + 5 < 2 ^ 31 by omega), zl_s, zl_s, show nI (x + 5) + (-1 : Int32) = nI (x + 4) from (Int32.sub_eq_add_neg (nI (x + 4 + 1)) 1).symm.trans (nI_pred (x + 4))]
      refine ⟨_, x + 5 - 4 - 1, rfl, by omega, x + 4, _, by omega, by omega, by omega, rfl, fun c s => ?_⟩
      rw [zup_at]
      show (if c = 51 ∧ s = 60 + x + 5 then Y 51 (60 + x) else Y c s) = _
      rw [hY, hY]
      repeat' split
      all_goals first | rfl | omega | skip
      all_goals (congr 1; omega)) 1000 55 (59, J) ⟨59, J, by decide, by decide, rfl, rfl, fun c s => by rw [if_neg (by omega)]⟩ (by decide)
  unfold fX8_brings
  rw [e1, zb_s]
  simp only [g60, g61, g62, g63, g64, g17, g13, g14, n60, n61, n62, n63, n64, n17, n13, n14, show (36 : Int32) + nI t = nI (36 + t) from nI_add 36 t, zg_k _ (show 36 + t < 120 by omega), zn_k (show 36 + t < 2 ^ 31 by omega), zl_s]
  refine ⟨_, rfl, fun c s => ?_⟩
  have hbb : (if J 51 17 + 1 < 12 then J 51 17 + 1 else 12) = nI (if b < 12 then b + 1 else 12) := by
    rw [hb, nI_1]
    by_cases q : b + 1 < 12
    · rw [if_pos (show nI (b + 1) < 12 from nI_lt (b := 12) q (by decide)), if_pos (by omega)]
    · rw [if_neg (show ¬ nI (b + 1) < 12 from Int32.not_lt.mpr (Int32.not_lt.mp (fun z => by
        have := Int32.lt_iff_toInt_lt.mp z
        rw [nI_toInt (by omega), show (12 : Int32).toInt = 12 from rfl] at this
        omega)))]
      by_cases q2 : b < 12
      · rw [if_pos q2, show b + 1 = 12 by omega]; rfl
      · rw [if_neg q2]; rfl
  have z17 : ∀ (I : zI) (k : Nat) (x : Int32), 18 ≤ k → zup I 51 k x 51 17 = I 51 17 := fun I k x hk => zup_r (by omega)
  have z13 : ∀ (I : zI) (k : Nat) (x : Int32), 14 ≤ k → zup I 51 k x 51 13 = I 51 13 := fun I k x hk => zup_r (by omega)
  have z14 : ∀ (I : zI) (k : Nat) (x : Int32), k ≠ 14 → zup I 51 k x 51 14 = I 51 14 := fun I k x hk => zup_r (by omega)
  have z36 : ∀ (I : zI) (k : Nat) (x : Int32), 60 ≤ k → zup I 51 k x 51 (36 + t) = I 51 (36 + t) := fun I k x hk => zup_r (by omega)
  rw [z36 _ 61 _ (by omega), z36 _ 60 _ (by omega), z17 _ 64 _ (by omega), z17 _ 63 _ (by omega), z17 _ 62 _ (by omega), z17 _ 61 _ (by omega), z17 _ 60 _ (by omega)]
  rw [z13 _ (36 + t) _ (by omega), z13 _ 17 _ (by omega), z13 _ 64 _ (by omega), z13 _ 63 _ (by omega), z13 _ 62 _ (by omega), z13 _ 61 _ (by omega), z13 _ 60 _ (by omega)]
  rw [z14 _ 13 _ (by omega), z14 _ (36 + t) _ (by omega), z14 _ 17 _ (by omega), z14 _ 64 _ (by omega), z14 _ 63 _ (by omega), z14 _ 62 _ (by omega), z14 _ 61 _ (by omega), z14 _ 60 _ (by omega)]
  rw [show X 51 17 = J 51 17 by rw [hX, if_neg (by omega)], hbb, show X 51 13 = J 51 13 by rw [hX, if_neg (by omega)], show X 51 14 = J 51 14 by rw [hX, if_neg (by omega)], show X 51 (36 + t) = J 51 (36 + t) by rw [hX, if_neg (by omega)]]
  simp only [zup_at, hX]
  repeat' split
  all_goals first | rfl | omega
