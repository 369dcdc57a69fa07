theorem fill8 {s : Nat} (hs : s < 4) (X : zI) : ∃ Y, zit (gX8_sheet_95 (nI s)) 1000 (0, X) = some Y ∧ ∀ c t : Nat, Y c t = if c = 60 ∧ 40 * s ≤ t ∧ t < 40 * s + 40 then 0 else X c t := by
  obtain ⟨Y, e, h⟩ := zit_one (g := gX8_sheet_95 (nI s)) (fun k x => ∃ (j : Nat) (Z : zI), j ≤ 40 ∧ k = 40 - j ∧ x = (nI j, Z) ∧ ∀ c t : Nat, Z c t = if c = 60 ∧ 40 * s ≤ t ∧ t < 40 * s + j then 0 else X c t) (fun Y => ∀ c t : Nat, Y c t = if c = 60 ∧ 40 * s ≤ t ∧ t < 40 * s + 40 then 0 else X c t) (by
    rintro k x ⟨j, Z, hj, rfl, rfl, hZ⟩
    unfold gX8_sheet_95
    simp only [zl_s, nI_1]
    by_cases q : j = 40
    · subst q
      right
      rw [if_pos (show (40 : Int32) ≤ nI 40 from Int32.le_refl _)]
      exact ⟨Z, rfl, hZ⟩
    · left
      rw [if_neg (show ¬ (40 : Int32) ≤ nI j from zz_nle (b := 40) (by omega) (by omega)), show (40 : Int32) * nI s + nI j = nI (40 * s + j) by
        rw [show (40 : Int32) * nI s = nI (40 * s) from pk_mul 40 s, nI_add]]
      rw [zg_k _ (show 40 * s + j < 160 by omega), zn_k (show 40 * s + j < 2 ^ 31 by omega)]
      refine ⟨_, 40 - (j + 1), rfl, by omega, j + 1, _, by omega, rfl, rfl, fun c t => ?_⟩
      rw [zup_at]
      by_cases z : c = 60 ∧ t = 40 * s + j
      · rw [if_pos z, if_pos (by omega)]
      · rw [if_neg z]
        show Z c t = _
        rw [hZ]
        by_cases y : c = 60 ∧ 40 * s ≤ t ∧ t < 40 * s + j
        · rw [if_pos y, if_pos (by omega)]
        · rw [if_neg y, if_neg (by omega)]) 1000 40 (0, X) ⟨0, X, by omega, rfl, rfl, fun c t => by rw [if_neg (by omega)]⟩ (by omega)
  exact ⟨Y, e, h⟩
theorem zRs_new {I J J' : zI} (h : zRs I J) {s m : Nat} {b : Int32} (hs : s < 4) (hm : m < 41) (hb : b = 0 ∨ b = 8 ∨ b = 16 ∨ b = 32) (hJ : ∀ c t : Nat, J' c t = if c = 60 ∧ 40 * s ≤ t ∧ t < 40 * s + 40 then 0 else if c = 59 ∧ t = s then nI m else if c = 58 ∧ t = s then b else J c t) : zRs (zfill (zup (zup I (42 + 2 * s) 0 b) (42 + 2 * s) 1 (nI m)) (42 + 2 * s + 1) 40 0) J' := by
  intro t ht
  obtain ⟨a1, a2, a3, a4, a5⟩ := h t ht
  unfold zfill zset
  by_cases q : t = s
  · subst q
    rw [if_neg (show ¬ 42 + 2 * t = 42 + 2 * t + 1 by omega), if_pos (show 43 + 2 * t = 42 + 2 * t + 1 by omega), hJ 58 t, hJ 59 t, if_neg (by omega), if_neg (by omega), if_pos ⟨rfl, rfl⟩, if_neg (by omega), if_pos ⟨rfl, rfl⟩, zup_s, zup_r (by omega), zup_s]
    refine ⟨rfl, rfl, fun k hk => ?_, ⟨m, hm, rfl⟩, hb⟩
    rw [hJ, if_pos hk, if_pos (by omega)]
  · rw [if_neg (show ¬ 42 + 2 * t = 42 + 2 * s + 1 by omega), if_neg (show ¬ 43 + 2 * t = 42 + 2 * s + 1 by omega), hJ 58 t, hJ 59 t, if_neg (by omega), if_neg (by omega), if_neg (by omega), if_neg (by omega), if_neg (by omega), if_neg (by omega), zup_ne (by omega), zup_ne (by omega), zup_ne (by omega), zup_ne (by omega)]
    refine ⟨a1, a2, fun k hk => ?_, a4, a5⟩
    rw [hJ, if_neg (by omega), if_neg (by omega), if_neg (by omega)]
    exact a3 k hk
