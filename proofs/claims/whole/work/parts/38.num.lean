/-! how many: copies, all, deep, weight -/
theorem zdL_k {α : Type} {k : Nat} (t : Option α) (h0 : 0 < k) (h : k < 2 ^ 63) : zdL (lN k) t = t := by
  unfold zdL
  rw [if_neg (show ¬ lN k = 0 from fun q => by
    have := (pk_lEQ (a := k) (b := 0) h (by omega)).mp q
    omega)]
theorem pl_div {k : Nat} (hk : 0 < k) (h : k < 2 ^ 63) : (4000000000000000000 : Int64) / lN k = lN (4000000000000000000 / k) := pk_lDiv (a := 4000000000000000000) (by omega) hk h
theorem find7_6 (I : zI) : fX7_finding (-1000007) I = some (-1000007, zup I 41 6 (I 41 6 + 1)) := find7 (k := 6) (by decide) I
theorem find8_6 (J : zI) : fX8_finding 6 J = some (-1000007, zup J 55 6 (J 55 6 + 1)) := find8 (k := 6) (by decide) J
theorem fin_leafL {I J : zI} (h : zRel I J) (k : Nat) (hk : k < 7 := by decide) {c d : Int32} (hc : c = (-1000001) - nI k := by rfl) (hd : d = nI k := by rfl) : ∃ (r : Int64) (I' J' : zI), (zb (fX7_finding c I) fun o => some (o.1.toInt64, o.2)) = some (r, I') ∧ (zb (fX8_finding d J) fun o => some (o.1.toInt64, o.2)) = some (r, J') ∧ zRel I' J' ∧ zO7 I I' ∧ zO8 J J' := by
  subst hc hd
  rw [find7 hk, find8 hk]
  exact ⟨_, _, _, rfl, rfl, zRel_find h hk, zO7.up (by omega), zO8.up (by omega)⟩
theorem zbt_k {b e : Int} {a : Int32} (hb : 0 ≤ b) (h : zbt b e a) : ∃ k : Nat, b ≤ (k : Int) ∧ (k : Int) ≤ e ∧ a = nI k := by
  obtain ⟨h1, h2⟩ := h
  have h3 := Int32.toInt_lt a
  refine ⟨a.toInt.toNat, by omega, by omega, Int32.toInt_inj.mp ?_⟩
  rw [nI_toInt (by omega)]
  omega
theorem houses8 (a b c : Int32) : fX8_isHouses a b c = some (zp (zbt 1 9 a ∧ zbt 0 c.toInt b)) := by
  unfold fX8_isHouses
  simp only [within8I, zb_s, zif, Int32.toInt_toInt64]
  rw [show Int64.toInt 1 = 1 from rfl, show Int64.toInt 9 = 9 from rfl, show Int64.toInt 0 = 0 from rfl]
  by_cases h1 : zbt 1 9 a
  · rw [zite_t h1]
    by_cases h2 : zbt 0 c.toInt b
    · rw [zite_t h2, zp_t ⟨h1, h2⟩]
    · rw [zite_f h2, zp_f (fun z => h2 z.2)]
  · rw [zite_f h1, zp_f (fun z => h1 z.1)]
theorem power8 {k n : Nat} (hk : 0 < k) (hk9 : k < 10) (hn : n < 100) : fX8_power 1000 (nI k) (nI n) = some (if k ^ n ≤ 4000000000000000000 then lN (k ^ n) else (-1)) := by
  have hd := Nat.div_le_self 4000000000000000000 k
  unfold fX8_power
  obtain ⟨r, e, h⟩ := zit_one (g := gX8_power_5 (nI k) (nI n)) (fun m s => ∃ j : Nat, j ≤ n ∧ m = n - j ∧ s = (lN (k ^ j), nI j) ∧ k ^ j ≤ 4000000000000000000) (fun r => r = if k ^ n ≤ 4000000000000000000 then .inr (lN (k ^ n)) else .inl (-1)) (by
    rintro m s ⟨j, hj, rfl, rfl, hM⟩
    unfold gX8_power_5
    simp only [nI_l (show k < 2 ^ 31 by omega), pl_div hk (show k < 2 ^ 63 by omega), zdL_k _ hk (show k < 2 ^ 63 by omega), lN_mul, zl_s, nI_1]
    by_cases q : j = n
    · subst q
      right
      rw [if_pos (Int32.le_refl _), if_pos hM]
      exact ⟨_, rfl, rfl⟩
    · rw [if_neg (zz_nle (by omega) (by omega))]
      have hcmp : lg_cmp (lN (k ^ j)) (lN (4000000000000000000 / k)) ≤ 0 ↔ k ^ (j + 1) ≤ 4000000000000000000 := by
        rw [lg_cmp_le, pk_lLE (by omega) (by omega), Nat.le_div_iff_mul_le hk, Nat.pow_succ]
      by_cases z : k ^ (j + 1) ≤ 4000000000000000000
      · left
        rw [if_pos (hcmp.mpr z), ← Nat.pow_succ]
        exact ⟨_, n - (j + 1), rfl, by omega, j + 1, by omega, rfl, rfl, z⟩
      · right
        rw [if_neg (fun y => z (hcmp.mp y)), if_neg (show ¬ k ^ n ≤ 4000000000000000000 from fun y => z (Nat.le_trans (Nat.pow_le_pow_right hk (by omega)) y))]
        exact ⟨_, rfl, rfl⟩) 1000 n (1, 0) ⟨0, by omega, rfl, rfl, by rw [Nat.pow_zero]; omega⟩ (by omega)
  rw [e, h]
  by_cases z : k ^ n ≤ 4000000000000000000
  · rw [if_pos z, if_pos z, zbs_r]
  · rw [if_neg z, if_neg z, zbs_l]
/-- both answer a number, or that it is too large -/
theorem size_leaf {I J : zI} (h : zRel I J) {c : Prop} [Decidable c] {x : Int64} {t7 t8 : Option (Int64 × zI)} (e7 : t7 = if c then some (x, I) else some ((-1000007 : Int32).toInt64, zup I 41 6 (I 41 6 + 1))) (e8 : t8 = if c then some (x, J) else some ((-1000007 : Int32).toInt64, zup J 55 6 (J 55 6 + 1))) : ∃ (r : Int64) (I' J' : zI), t7 = some (r, I') ∧ t8 = some (r, J') ∧ zRel I' J' ∧ zO7 I I' ∧ zO8 J J' := by
  by_cases q : c
  · rw [if_pos q] at e7 e8
    exact ⟨_, _, _, e7, e8, h, zO7.rf, zO8.rf⟩
  · rw [if_neg q] at e7 e8
    exact ⟨_, _, _, e7, e8, zRel_find h (k := 6) (by decide), zO7.up (by omega), zO8.up (by omega)⟩
theorem copies7 {k n : Nat} (hk : 0 < k) (hk9 : k < 10) (hn : n < 63) (I : zI) : (zbs (zit (gX7_copies_33 (nI k) (nI n) I) 1000 (1, 0)) fun x9 : Int64 => some (x9, I)) = if k ^ n ≤ 4000000000000000000 then some (lN (k ^ n), I) else some ((-1000007 : Int32).toInt64, zup I 41 6 (I 41 6 + 1)) := by
  have hd := Nat.div_le_self 4000000000000000000 k
  obtain ⟨r, e, h⟩ := zit_one (g := gX7_copies_33 (nI k) (nI n) I) (fun m s => ∃ j : Nat, j ≤ n ∧ m = n - j ∧ s = (lN (k ^ j), nI j) ∧ k ^ j ≤ 4000000000000000000) (fun r => r = if k ^ n ≤ 4000000000000000000 then .inr (lN (k ^ n)) else .inl ((-1000007 : Int32).toInt64, zup I 41 6 (I 41 6 + 1))) (by
    rintro m s ⟨j, hj, rfl, rfl, hM⟩
    unfold gX7_copies_33
    simp only [nI_l (show k < 2 ^ 31 by omega), pl_div hk (show k < 2 ^ 63 by omega), zdL_k _ hk (show k < 2 ^ 63 by omega), lN_mul, zl_s, nI_1, find7_6, zb_s]
    by_cases q : j = n
    · subst q
      right
      rw [if_pos (Int32.le_refl _), if_pos hM]
      exact ⟨_, rfl, rfl⟩
    · rw [if_neg (zz_nle (by omega) (by omega))]
      have hcmp : lg_cmp (lN (k ^ j)) (lN (4000000000000000000 / k)) ≤ 0 ↔ k ^ (j + 1) ≤ 4000000000000000000 := by
        rw [lg_cmp_le, pk_lLE (by omega) (by omega), Nat.le_div_iff_mul_le hk, Nat.pow_succ]
      by_cases z : k ^ (j + 1) ≤ 4000000000000000000
      · left
        rw [if_pos (hcmp.mpr z), ← Nat.pow_succ]
        exact ⟨_, n - (j + 1), rfl, by omega, j + 1, by omega, rfl, rfl, z⟩
      · right
        rw [if_neg (fun y => z (hcmp.mp y)), if_neg (show ¬ k ^ n ≤ 4000000000000000000 from fun y => z (Nat.le_trans (Nat.pow_le_pow_right hk (by omega)) y))]
        exact ⟨_, rfl, rfl⟩) 1000 n (1, 0) ⟨0, by omega, rfl, rfl, by rw [Nat.pow_zero]; omega⟩ (by omega)
  rw [e, h]
  by_cases z : k ^ n ≤ 4000000000000000000
  · rw [if_pos z, if_pos z, zbs_r]
  · rw [if_neg z, if_neg z, zbs_l]
theorem lc_pos (x : Nat) (h : x < 2 ^ 63) : 0 ≤ lg_cmp (lN x) 0 := (lg_cmp_ge _ _).mpr ((pk_lLE (a := 0) (by omega) h).mpr (Nat.zero_le x))
theorem q_copies (a b : Int32) (I J : zI) (h : zRel I J) : ∃ r I' J', fX7_copies 1000 a b I = some (r, I') ∧ fX8_copies 1000 a b J = some (r, J') ∧ zRel I' J' ∧ zO7 I I' ∧ zO8 J J' := by
  unfold fX7_copies fX8_copies
  simp only [within7, houses8, zb_s, zif]
  rw [show Int32.toInt 1 = 1 from rfl, show Int32.toInt 9 = 9 from rfl, show Int32.toInt 0 = 0 from rfl, show Int32.toInt 62 = 62 from rfl]
  by_cases hab : zbt 1 9 a ∧ zbt 0 62 b
  · rw [zite_t hab, zite_t hab.1, zite_t hab.2]
    obtain ⟨k, k1, k2, rfl⟩ := zbt_k (by omega) hab.1
    obtain ⟨n, n1, n2, rfl⟩ := zbt_k (by omega) hab.2
    refine size_leaf h (c := k ^ n ≤ 4000000000000000000) (copies7 (by omega) (by omega) (by omega) I) ?_
    rw [power8 (by omega) (by omega) (by omega), zb_s, find8_6, zb_s]
    by_cases z : k ^ n ≤ 4000000000000000000
    · rw [if_pos z, if_pos z, if_pos (lc_pos _ (by omega))]
    · rw [if_neg z, if_neg z, if_neg (by decide)]
  · rw [zite_f hab]
    by_cases ha : zbt 1 9 a
    · rw [zite_t ha, zite_f (fun z => hab ⟨ha, z⟩)]; exact fin_leafL h 0
    · rw [zite_f ha]; exact fin_leafL h 0
def zgeo (k : Nat) : Nat → Nat
  | 0 => 0
  | j + 1 => zgeo k j + k ^ j
theorem zgeo_s (k j : Nat) : zgeo k (j + 1) = zgeo k j + k ^ j := rfl
theorem zgeo_le (k j : Nat) : ∀ i : Nat, zgeo k j ≤ zgeo k (j + i)
  | 0 => Nat.le_refl _
  | i + 1 => Nat.le_trans (zgeo_le k j i) (Nat.le_add_right _ _)
theorem all7 {k n : Nat} (hk : 0 < k) (hk9 : k < 10) (hn : n < 63) (I : zI) : (zbs (zit (gX7_all_36 (nI k) (nI n) I) 1000 (1, 1, 0)) fun x9 : Int64 => some (x9, I)) = if zgeo k (n + 1) ≤ 4000000000000000000 then some (lN (zgeo k (n + 1)), I) else some ((-1000007 : Int32).toInt64, zup I 41 6 (I 41 6 + 1)) := by
  have hd := Nat.div_le_self 4000000000000000000 k
  obtain ⟨r, e, h⟩ := zit_one (g := gX7_all_36 (nI k) (nI n) I) (fun m s => ∃ j : Nat, j ≤ n ∧ m = n - j ∧ s = (lN (k ^ j), lN (zgeo k (j + 1)), nI j) ∧ zgeo k (j + 1) ≤ 4000000000000000000) (fun r => r = if zgeo k (n + 1) ≤ 4000000000000000000 then .inr (lN (zgeo k (n + 1))) else .inl ((-1000007 : Int32).toInt64, zup I 41 6 (I 41 6 + 1))) (by
    rintro m s ⟨j, hj, rfl, rfl, hM⟩
    have hkj : k ^ j ≤ 4000000000000000000 := by
      rw [zgeo_s] at hM
      omega
    unfold gX7_all_36
    simp only [nI_l (show k < 2 ^ 31 by omega), pl_div hk (show k < 2 ^ 63 by omega), zdL_k _ hk (show k < 2 ^ 63 by omega), lN_mul, lN_add, zl_s, nI_1, find7_6, zb_s]
    by_cases q : j = n
    · subst q
      right
      rw [if_pos (Int32.le_refl _), if_pos hM]
      exact ⟨_, rfl, rfl⟩
    · rw [if_neg (zz_nle (by omega) (by omega)), ← Nat.pow_succ]
      have hcmp : 0 < lg_cmp (lN (k ^ j)) (lN (4000000000000000000 / k)) ↔ ¬ k ^ (j + 1) ≤ 4000000000000000000 := by
        rw [lg_cmp_gt, pk_lLT (by omega) (by omega), Nat.pow_succ, ← Nat.le_div_iff_mul_le hk]
        omega
      have hmono : zgeo k (j + 2) ≤ zgeo k (n + 1) := by
        have := zgeo_le k (j + 2) (n - 1 - j)
        rw [show j + 2 + (n - 1 - j) = n + 1 by omega] at this
        exact this
      have hs2 : zgeo k (j + 2) = zgeo k (j + 1) + k ^ (j + 1) := rfl
      by_cases z : k ^ (j + 1) ≤ 4000000000000000000
      · rw [if_neg (fun y => hcmp.mp y z)]
        rw [show (4000000000000000000 : Int64) - lN (k ^ (j + 1)) = lN (4000000000000000000 - k ^ (j + 1)) from lN_sub (a := 4000000000000000000) z]
        have hc2 : lg_cmp (lN (zgeo k (j + 1))) (lN (4000000000000000000 - k ^ (j + 1))) ≤ 0 ↔ zgeo k (j + 2) ≤ 4000000000000000000 := by
          rw [lg_cmp_le, pk_lLE (by omega) (by omega), hs2]
          omega
        by_cases z2 : zgeo k (j + 2) ≤ 4000000000000000000
        · left
          rw [if_pos (hc2.mpr z2)]
          exact ⟨_, n - (j + 1), rfl, by omega, j + 1, by omega, rfl, rfl, z2⟩
        · right
          rw [if_neg (fun y => z2 (hc2.mp y)), if_neg (show ¬ zgeo k (n + 1) ≤ 4000000000000000000 by omega)]
          exact ⟨_, rfl, rfl⟩
      · right
        rw [if_pos (hcmp.mpr z), if_neg (show ¬ zgeo k (n + 1) ≤ 4000000000000000000 by omega)]
        exact ⟨_, rfl, rfl⟩) 1000 n (1, 1, 0) ⟨0, by omega, rfl, rfl, by rw [show zgeo k (0 + 1) = 1 from rfl]; omega⟩ (by omega)
  rw [e, h]
  by_cases z : zgeo k (n + 1) ≤ 4000000000000000000
  · rw [if_pos z, if_pos z, zbs_r]
  · rw [if_neg z, if_neg z, zbs_l]
theorem all8 {k n : Nat} (hk : 0 < k) (hk9 : k < 10) (hn : n < 63) (J : zI) : (zbs (zit (gX8_all_22 1000 (nI k) (nI n) J) 1000 (0, 0)) fun x4 : Int64 => some (x4, J)) = if zgeo k (n + 1) ≤ 4000000000000000000 then some (lN (zgeo k (n + 1)), J) else some ((-1000007 : Int32).toInt64, zup J 55 6 (J 55 6 + 1)) := by
  obtain ⟨r, e, h⟩ := zit_one (g := gX8_all_22 1000 (nI k) (nI n) J) (fun m s => ∃ j : Nat, j ≤ n + 1 ∧ m = n + 1 - j ∧ s = (lN (zgeo k j), nI j) ∧ zgeo k j ≤ 4000000000000000000) (fun r => r = if zgeo k (n + 1) ≤ 4000000000000000000 then .inr (lN (zgeo k (n + 1))) else .inl ((-1000007 : Int32).toInt64, zup J 55 6 (J 55 6 + 1))) (by
    rintro m s ⟨j, hj, rfl, rfl, hM⟩
    unfold gX8_all_22
    simp only [zl_s, nI_1, find8_6, zb_s]
    by_cases q : j = n + 1
    · subst q
      right
      rw [if_pos (nI_lt (by omega) (by omega)), if_pos hM]
      exact ⟨_, rfl, rfl⟩
    · rw [if_neg (nI_nlt (by omega) (by omega)), power8 hk hk9 (by omega), zb_s]
      have hmono : zgeo k (j + 1) ≤ zgeo k (n + 1) := by
        have := zgeo_le k (j + 1) (n - j)
        rw [show j + 1 + (n - j) = n + 1 by omega] at this
        exact this
      have hs2 : zgeo k (j + 1) = zgeo k j + k ^ j := rfl
      by_cases z : k ^ j ≤ 4000000000000000000
      · rw [if_pos z, if_neg (fun y => Int32.not_le.mpr y (lc_pos _ (by omega)))]
        rw [show (4000000000000000000 : Int64) - lN (zgeo k j) = lN (4000000000000000000 - zgeo k j) from lN_sub (a := 4000000000000000000) hM, lN_add]
        have hc2 : lg_cmp (lN (k ^ j)) (lN (4000000000000000000 - zgeo k j)) ≤ 0 ↔ zgeo k (j + 1) ≤ 4000000000000000000 := by
          rw [lg_cmp_le, pk_lLE (by omega) (by omega), hs2]
          omega
        by_cases z2 : zgeo k (j + 1) ≤ 4000000000000000000
        · left
          rw [if_pos (hc2.mpr z2)]
          exact ⟨_, n + 1 - (j + 1), rfl, by omega, j + 1, by omega, rfl, rfl, z2⟩
        · right
          rw [if_neg (fun y => z2 (hc2.mp y)), if_neg (show ¬ zgeo k (n + 1) ≤ 4000000000000000000 by omega)]
          exact ⟨_, rfl, rfl⟩
      · right
        rw [if_neg z, if_pos (by decide), if_neg (show ¬ zgeo k (n + 1) ≤ 4000000000000000000 by omega)]
        exact ⟨_, rfl, rfl⟩) 1000 (n + 1) (0, 0) ⟨0, by omega, rfl, rfl, by rw [show zgeo k 0 = 0 from rfl]; omega⟩ (by omega)
  rw [e, h]
  by_cases z : zgeo k (n + 1) ≤ 4000000000000000000
  · rw [if_pos z, if_pos z, zbs_r]
  · rw [if_neg z, if_neg z, zbs_l]
theorem q_all (a b : Int32) (I J : zI) (h : zRel I J) : ∃ r I' J', fX7_all 1000 a b I = some (r, I') ∧ fX8_all 1000 a b J = some (r, J') ∧ zRel I' J' ∧ zO7 I I' ∧ zO8 J J' := by
  unfold fX7_all fX8_all
  simp only [within7, houses8, zb_s, zif]
  rw [show Int32.toInt 1 = 1 from rfl, show Int32.toInt 9 = 9 from rfl, show Int32.toInt 0 = 0 from rfl, show Int32.toInt 62 = 62 from rfl]
  by_cases hab : zbt 1 9 a ∧ zbt 0 62 b
  · rw [zite_t hab, zite_t hab.1, zite_t hab.2]
    obtain ⟨k, k1, k2, rfl⟩ := zbt_k (by omega) hab.1
    obtain ⟨n, n1, n2, rfl⟩ := zbt_k (by omega) hab.2
    exact size_leaf h (c := zgeo k (n + 1) ≤ 4000000000000000000) (all7 (by omega) (by omega) (by omega) I) (all8 (by omega) (by omega) (by omega) J)
  · rw [zite_f hab]
    by_cases ha : zbt 1 9 a
    · rw [zite_t ha, zite_f (fun z => hab ⟨ha, z⟩)]; exact fin_leafL h 0
    · rw [zite_f ha]; exact fin_leafL h 0
theorem q_deep (a b : Int32) (I J : zI) (h : zRel I J) : ∃ r I' J', fX7_deep 1000 a b I = some (r, I') ∧ fX8_deep 1000 a b J = some (r, J') ∧ zRel I' J' ∧ zO7 I I' ∧ zO8 J J' := by
  unfold fX7_deep fX8_deep
  simp only [within7, within8I, zb_s, zif]
  rw [show Int32.toInt 1 = 1 from rfl, show Int32.toInt 9 = 9 from rfl, show Int64.toInt 1 = 1 from rfl, show Int64.toInt 9 = 9 from rfl, show Int32.toInt 2000000000 = 2000000000 from rfl, show Int64.toInt 2000000000 = 2000000000 from rfl]
  by_cases ha : ¬ zbt 1 9 a
  · rw [zite_f ha, zite_f ha]; exact fin_leaf h 0
  replace ha := Classical.not_not.mp ha
  rw [zite_t ha, zite_t ha]
  by_cases hb : ¬ zbt 1 2000000000 b
  · rw [zite_f hb, zite_f hb]; exact fin_leaf h 0
  replace hb := Classical.not_not.mp hb
  rw [zite_t hb, zite_t hb]
  obtain ⟨k, k1, k2, rfl⟩ := zbt_k (by omega) ha
  obtain ⟨v, v1, v2, rfl⟩ := zbt_k (by omega) hb
  have hk : 0 < k := by omega
  obtain ⟨r, u, e1, e2, e3⟩ := zit_rel (g := gX7_deep_32 (nI k) (nI v) I) (f := gX8_deep_32 1000 (nI k) (nI v)) (fun m s t => ∃ j : Nat, j ≤ 63 ∧ m = 63 - j ∧ s = (lN (k ^ j), nI j) ∧ t = nI j ∧ k ^ j ≤ 20000000000) (fun r u => (∃ j : Nat, j < 63 ∧ r = .inl (nI j, I) ∧ u = nI j) ∨ (r = .inr () ∧ u = 63)) (by
    rintro m s t ⟨j, hj, rfl, rfl, rfl, hM⟩
    unfold gX7_deep_32 gX8_deep_32
    simp only [zl_s, nI_1, nI_l (show k < 2 ^ 31 by omega), nI_l (show v < 2 ^ 31 by omega), lN_mul]
    by_cases q : j = 63
    · subst q
      right
      rw [if_pos (show (62 : Int32) < nI 63 by decide), if_pos (show (62 : Int32) < nI 63 by decide)]
      exact ⟨_, _, rfl, rfl, Or.inr ⟨rfl, rfl⟩⟩
    · have hj2 : j < 63 := by omega
      rw [if_neg (show ¬ (62 : Int32) < nI j from nI_nlt (b := j) (a := 62) (by omega) (by omega)), if_neg (show ¬ (62 : Int32) < nI j from nI_nlt (b := j) (a := 62) (by omega) (by omega))]
      rw [power8 hk (by omega) (by omega), zb_s, zb_s, if_pos (show k ^ j ≤ 4000000000000000000 by omega), if_neg (fun y => Int32.not_le.mpr y (lc_pos _ (by omega)))]
      by_cases z : k ^ j < v
      · left
        rw [if_pos ((lg_cmp_lt _ _).mpr ((pk_lLT (by omega) (by omega)).mpr z)), if_neg (fun y => Nat.not_le.mpr z ((pk_lLE (by omega) (by omega)).mp ((lg_cmp_ge _ _).mp y))), ← Nat.pow_succ]
        refine ⟨_, _, 63 - (j + 1), rfl, rfl, by omega, j + 1, by omega, rfl, rfl, rfl, ?_⟩
        rw [Nat.pow_succ]
        have := Nat.mul_le_mul (show k ^ j ≤ 2000000000 by omega) (show k ≤ 9 by omega)
        omega
      · right
        rw [if_neg (fun y => z ((pk_lLT (by omega) (by omega)).mp ((lg_cmp_lt _ _).mp y))), if_pos ((lg_cmp_ge _ _).mpr ((pk_lLE (by omega) (by omega)).mpr (by omega)))]
        exact ⟨_, _, rfl, rfl, Or.inl ⟨j, hj2, rfl, rfl⟩⟩) 1000 63 (1, 0) 0 ⟨0, by omega, rfl, rfl, rfl, by rw [Nat.pow_zero]; omega⟩ (by omega)
  rw [e1, e2, zb_s]
  rcases e3 with ⟨j, hj, rfl, rfl⟩ | ⟨rfl, rfl⟩
  · rw [zbs_l, if_neg (show ¬ (62 : Int32) < nI j from nI_nlt (b := j) (a := 62) (by omega) (by omega))]
    exact ⟨_, _, _, rfl, rfl, h, zO7.rf, zO8.rf⟩
  · rw [zbs_r, if_pos (by decide)]
    exact fin_leaf h 3
