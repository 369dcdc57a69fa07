theorem zRs_put {I J : zI} (h : zRs I J) {s k : Nat} (hs : s < 4) (hk : k < 40) (v : Int32) : zRs (zup I (42 + 2 * s + 1) k v) (zup J 60 (40 * s + k) v) := by
  intro t ht
  obtain ⟨a, b, c, d, e⟩ := h t ht
  rw [zup_ne (j := 42 + 2 * t) (by omega), zup_ne (j := 58) (by omega), zup_ne (j := 59) (by omega)]
  refine ⟨a, b, fun j hj => ?_, d, e⟩
  rw [zup_at, zup_at]
  by_cases q : t = s ∧ j = k
  · rw [if_pos (by omega), if_pos (by omega)]
  · rw [if_neg (by omega), if_neg (by omega)]; exact c j hj
theorem lacks8 {J : zI} {s : Nat} (hs : s < 4) : fX8_lacksOf (nI s) J = some (if J 58 s = 0 then 5 else (-1)) := by
  unfold fX8_lacksOf
  rw [sheet8, zb_s, zif, zite_t (show zlt 4 (nI s) from ⟨s, hs, rfl⟩), zg_k _ hs, zn_k (show s < 2 ^ 31 by omega)]
  by_cases q : J 58 s = 0
  · rw [if_pos q, if_pos q]
  · rw [if_neg q, if_neg q]
theorem lacks8n {J : zI} {a : Int32} (hs : ¬ zlt 4 a) : fX8_lacksOf a J = some 0 := by
  unfold fX8_lacksOf
  rw [sheet8, zb_s, zif, zite_f hs]
theorem q_write (a b v : Int32) (I J : zI) (h : zRel I J) : ∃ r I' J', fX7_write a b v I = some (r, I') ∧ fX8_write a b v J = some (r, J') ∧ zRel I' J' ∧ zO7 I I' ∧ zO8 J J' := by
  unfold fX7_write fX8_write
  rw [sheet7, zb_s, zif]
  by_cases ha : ¬ zlt 4 a
  · rw [zite_f ha, lacks8n ha, zb_s, if_neg (by decide)]; exact fin_leaf h 0
  replace ha := Classical.not_not.mp ha
  rw [zite_t ha]
  obtain ⟨s, hs, rfl⟩ := ha
  obtain ⟨e0, e1, ec, ⟨m, hm, em⟩, eb⟩ := h.2.2.2.2 s hs
  rw [lacks8 hs, zb_s]
  simp only [zg_k _ hs, zn_k (show s < 2 ^ 31 by omega), miss2, zb_s, zif, e0, e1, em]
  by_cases q : J 58 s = 0
  · rw [zite_t q, if_pos q, if_neg (by decide)]; exact fin_leaf h 5
  · rw [zite_f q, if_neg q, if_pos (by decide)]
    simp only [within7, within8I, zb_s, zif, Int32.toInt_toInt64, nI_m1 (show m < 2 ^ 30 by omega)]
    rw [zlt_bt (n := m) (b := Int32.toInt 0) (by omega) rfl rfl, zlt_bt (n := m) (b := Int64.toInt 0) (by omega) rfl rfl]
    by_cases hb : ¬ zlt m b
    · rw [zite_f hb, zite_f hb]; exact fin_leaf h 0
    replace hb := Classical.not_not.mp hb
    rw [zite_t hb, zite_t hb]
    obtain ⟨k, hk, rfl⟩ := hb
    have hk40 : k < 40 := by omega
    rw [put2 hk40, zb_s, e0, cut8, zb_s, show (40 : Int32) * nI s + nI k = nI (40 * s + k) by
      rw [show (40 : Int32) * nI s = nI (40 * s) from pk_mul 40 s, nI_add]]
    rw [zg_k _ (show 40 * s + k < 160 by omega), zn_k (show 40 * s + k < 2 ^ 31 by omega), zl_s]
    exact ⟨_, _, _, rfl, rfl, zRel_sheet h (zRs_put h.2.2.2.2 hs hk40 _) (fun c hc => zup_ne (by omega)) (fun c hc => zup_ne (by omega)), zO7.up (by omega), zO8.up (by omega)⟩
