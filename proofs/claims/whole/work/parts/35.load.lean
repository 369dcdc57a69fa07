theorem q_load (a : Int32) (I J : zI) (h : zRel I J) : ∃ r I' J', fX7_load 1000 a I = some (r, I') ∧ fX8_load 1000 a J = some (r, J') ∧ zRel I' J' ∧ zO7 I I' ∧ zO8 J J' := by
  unfold fX7_load fX8_load
  rw [sheet7, zb_s, zif]
  by_cases ha : ¬ zlt 4 a
  · rw [zite_f ha, lacks8n ha, zb_s, if_neg (by decide)]; exact fin_leaf h 0
  replace ha := Classical.not_not.mp ha
  rw [zite_t ha]
  obtain ⟨s, hs, rfl⟩ := ha
  obtain ⟨e0, _, _, _, _⟩ := h.2.2.2.2 s hs
  rw [lacks8 hs, zb_s]
  simp only [zg_k _ hs, zn_k (show s < 2 ^ 31 by omega), miss2, zb_s, zif, e0]
  by_cases q : J 58 s = 0
  · rw [zite_t q, if_pos q, if_neg (by decide)]; exact fin_leaf h 5
  · rw [zite_f q, if_neg q, if_pos (by decide)]
    obtain ⟨r, u, x1, x2, x3, x4, x5, x6⟩ := zit_rel (g := gX7_load_38 (nI s)) (f := gX8_load_18 (nI s)) (fun k x y => ∃ (j : Nat) (I' J' : zI), j ≤ 40 ∧ k = 40 - j ∧ x = (nI j, nI j, I') ∧ y = (nI j, J') ∧ zRel I' J' ∧ zO7 I I' ∧ zO8 J J') (fun r u => r.1 = u.1 ∧ zRel r.2 u.2 ∧ zO7 I r.2 ∧ zO8 J u.2) (by
      rintro k x y ⟨j, I', J', hj, rfl, rfl, rfl, hz, o7, o8⟩
      obtain ⟨m, hm, t8, t7⟩ := hz.many
      obtain ⟨e0, e1, ec, ⟨l, hl, em⟩, eb⟩ := hz.2.2.2.2 s hs
      have g11 : ∀ t : Option ((Int32 × zI) ⊕ (Int32 × zI)), zg 11 120 t = t := fun t => zg_k (i := 11) t (by decide)
      have n11 : zn 11 = 11 := rfl
      unfold gX7_load_38 gX8_load_18
      simp only [zg_k _ hs, zn_k (show s < 2 ^ 31 by omega), g11, n11, e1, em, t8, thing7 _ t7 hm, zb_s, zif, nI_1, zl_s]
      by_cases q1 : l ≤ j
      · right
        have q1' : nI l ≤ nI j := Int32.not_lt.mp (fun z => by
          have := Int32.lt_iff_toInt_lt.mp z
          rw [nI_toInt (by omega), nI_toInt (by omega)] at this
          omega)
        rw [if_pos q1', if_pos q1']
        exact ⟨_, _, rfl, rfl, rfl, hz, o7, o8⟩
      rw [if_neg (zz_nle (by omega) (by omega)), if_neg (zz_nle (by omega) (by omega))]
      have hj40 : j < 40 := by omega
      by_cases q2 : m ≤ j
      · right
        have q2' : nI m ≤ nI j := Int32.not_lt.mp (fun z => by
          have := Int32.lt_iff_toInt_lt.mp z
          rw [nI_toInt (by omega), nI_toInt (by omega)] at this
          omega)
        rw [zite_f (show ¬ zlt m (nI j) from fun ⟨t, ht, z⟩ => by
          have := (nI_eq (by omega) (by omega)).mp z
          omega), if_pos q2']
        exact ⟨_, _, rfl, rfl, rfl, hz, o7, o8⟩
      have hj8 : j < 8 := by omega
      rw [zite_t (show zlt m (nI j) from ⟨j, by omega, rfl⟩), if_neg (zz_nle (by omega) (by omega))]
      rw [show (40 : Int32) * nI s + nI j = nI (40 * s + j) by
        rw [show (40 : Int32) * nI s = nI (40 * s) from pk_mul 40 s, nI_add]]
      rw [show (36 : Int32) + nI j = nI (36 + j) from nI_add 36 j]
      simp only [zg_k _ hj40, zg_k _ hj8, zg_k _ (show 40 * s + j < 160 by omega), zg_k _ (show 36 + j < 120 by omega), zn_k (show j < 2 ^ 31 by omega), zn_k (show 40 * s + j < 2 ^ 31 by omega), zn_k (show 36 + j < 2 ^ 31 by omega), room7, room8, zb_s, zif, show I' (42 + 2 * s + 1) j = J' 60 (40 * s + j) by rw [show 42 + 2 * s + 1 = 43 + 2 * s by omega]; exact ec j hj40]
      by_cases q3 : ¬ zlt 8 (J' 60 (40 * s + j))
      · right
        rw [zite_f q3, zite_f q3]
        exact ⟨_, _, rfl, rfl, rfl, hz, o7, o8⟩
      replace q3 := Classical.not_not.mp q3
      left
      rw [zite_t q3, zite_t q3]
      have hn := zRel_w hz (zRw_up hz.1 (by omega) (zcm_room (w := 1) hj8) (by rw [zok_room hj8]; exact q3) (by omega)) (fun c hc => zup_ne (by omega)) (fun c hc => zup_ne hc)
      exact ⟨_, _, 40 - (j + 1), rfl, rfl, by omega, j + 1, _, _, by omega, rfl, rfl, rfl, hn.1, o7.tr hn.2.1, o8.tr hn.2.2⟩) 1000 40 (0, 0, I) (0, J) ⟨0, I, J, by omega, rfl, rfl, rfl, h, zO7.rf, zO8.rf⟩ (by omega)
    rw [x1, x2, zb_s, zb_s, x3]
    exact ⟨_, _, _, rfl, rfl, x4, x5, x6⟩
