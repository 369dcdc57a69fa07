/-! tear, status -/
theorem zRel_kept {I J I' J' : zI} (h : zRel I J) (hk : zRk I' J') (hI : ∀ c s : Nat, ¬ (c = 0 ∧ s = 3) → ¬ (10 ≤ c ∧ c ≤ 18) → I' c s = I c s) (hJ : ∀ c s : Nat, ¬ (c = 50 ∧ s = 3) → c ≠ 52 → J' c s = J c s) : zRel I' J' := by
  have hi : ∀ c : Nat, c ≠ 0 → ¬ (10 ≤ c ∧ c ≤ 18) → I' c = I c := fun c h1 h2 => funext fun s => hI c s (fun q => h1 q.1) h2
  have hj : ∀ c : Nat, c ≠ 50 → c ≠ 52 → J' c = J c := fun c h1 h2 => funext fun s => hJ c s (fun q => h1 q.1) h2
  obtain ⟨hw, _, ht, hf, hs⟩ := h
  refine ⟨zRw_congr hw (fun c h1 h2 => hi c (by omega) (by omega)) (hj 51 (by decide) (by decide)), hk, ?_, ?_, ?_⟩
  · unfold zRt at ht ⊢
    rw [hi 33 (by decide) (by decide), hJ 50 5 (by decide) (by decide), hi 34 (by decide) (by decide), hj 54 (by decide) (by decide)]
    exact ht
  · intro k hk
    rw [hi 41 (by decide) (by decide), hj 55 (by decide) (by decide)]; exact hf k hk
  · intro s hs4
    rw [hi (42 + 2 * s) (by omega) (by omega), hi (43 + 2 * s) (by omega) (by omega), hj 58 (by decide) (by decide), hj 59 (by decide) (by decide), hj 60 (by decide) (by decide)]
    exact hs s hs4
theorem q_tear (I J : zI) (h : zRel I J) : ∃ r I' J', fX7_tear I = some (r, I') ∧ fX8_tear J = some (r, J') ∧ zRel I' J' ∧ zO7 I I' ∧ zO8 J J' := by
  have hz : zRel (zup I 0 3 0) (zup J 50 3 0) := zRel_kept h ⟨by rw [zup_s, zup_s], Or.inl zup_s, fun q => by
    rw [zup_s] at q
    exact absurd q (by decide)⟩ (fun c s h1 h2 => zup_r h1) (fun c s h1 h2 => zup_r h1)
  unfold fX7_tear fX8_tear
  rw [h.2.1.1]
  by_cases q : J 50 3 = 0
  · rw [if_pos q, if_pos q, zl_s, zl_s]
    exact ⟨_, _, _, rfl, rfl, hz, zO7.up (by omega), zO8.up (by omega)⟩
  · rw [if_neg q, if_neg q, zl_s, zl_s]
    exact ⟨_, _, _, rfl, rfl, hz, zO7.up (by omega), zO8.up (by omega)⟩
theorem stat_all {I J : zI} (h : zRel I J) {a : Int32} (ha : a < 0) : ∃ r : Int32, zit (gX7_status_32 I) 1000 (0, 0) = some r ∧ zit (gX8_status_24 a J) 1000 (0, 0) = some r := by
  obtain ⟨r, u, e1, e2, e3⟩ := zit_rel (g := gX7_status_32 I) (f := gX8_status_24 a J) (fun k s t => ∃ (j : Nat) (v : Int32), j ≤ 7 ∧ k = 7 - j ∧ s = (v, nI j) ∧ t = (v, nI j)) (fun r u => r = u) (by
    rintro k s t ⟨j, v, hj, rfl, rfl, rfl⟩
    unfold gX7_status_32 gX8_status_24
    simp only [zl_s, nI_1]
    by_cases q : j = 7
    · subst q
      right
      rw [if_pos (show (7 : Int32) ≤ nI 7 from Int32.le_refl _), if_pos (show (7 : Int32) ≤ nI 7 from Int32.le_refl _)]
      exact ⟨v, v, rfl, rfl, rfl⟩
    · left
      have hj7 : j < 7 := by omega
      rw [if_neg (show ¬ (7 : Int32) ≤ nI j from zz_nle (b := 7) (by omega) hj7), if_neg (show ¬ (7 : Int32) ≤ nI j from zz_nle (b := 7) (by omega) hj7), if_pos ha, zg_k _ hj7, zg_k _ hj7, zn_k (show j < 2 ^ 31 by omega), h.2.2.2.1 j hj7]
      exact ⟨_, _, 7 - (j + 1), rfl, rfl, by omega, j + 1, _, by omega, rfl, rfl, rfl⟩) 1000 7 (0, 0) (0, 0) ⟨0, 0, by omega, rfl, rfl, rfl⟩ (by omega)
  subst e3
  exact ⟨r, e1, e2⟩
theorem stat_one {J : zI} {c : Nat} (hc : c < 7) : zit (gX8_status_24 (nI c) J) 1000 (0, 0) = some (J 55 c) := by
  obtain ⟨r, e1, e2⟩ := zit_one (g := gX8_status_24 (nI c) J) (fun k s => ∃ j : Nat, j ≤ 7 ∧ k = 7 - j ∧ s = ((if c < j then J 55 c else 0), nI j)) (fun r => r = J 55 c) (by
    rintro k s ⟨j, hj, rfl, rfl⟩
    unfold gX8_status_24
    simp only [zl_s, nI_1, Int32.add_zero]
    by_cases q : j = 7
    · subst q
      right
      rw [if_pos (show (7 : Int32) ≤ nI 7 from Int32.le_refl _), if_pos hc]
      exact ⟨_, rfl, rfl⟩
    · left
      have hj7 : j < 7 := by omega
      rw [if_neg (show ¬ (7 : Int32) ≤ nI j from zz_nle (b := 7) (by omega) hj7), if_neg (show ¬ nI c < 0 from nI_pos (by omega))]
      by_cases qc : c = j
      · subst qc
        rw [if_pos rfl, zg_k _ hj7, zn_k (show c < 2 ^ 31 by omega), if_neg (by omega), Int32.zero_add]
        exact ⟨_, 7 - (c + 1), rfl, by omega, c + 1, by omega, rfl, by rw [if_pos (by omega)]⟩
      · rw [if_neg (fun z => qc ((nI_eq (by omega) (by omega)).mp z))]
        refine ⟨_, 7 - (j + 1), rfl, by omega, j + 1, by omega, rfl, ?_⟩
        by_cases z : c < j
        · rw [if_pos z, if_pos (by omega)]
        · rw [if_neg z, if_neg (by omega)]) 1000 7 (0, 0) ⟨0, by omega, rfl, by rw [if_neg (by omega)]; rfl⟩ (by omega)
  rw [e1, e2]
theorem q_status (a : Int32) (I J : zI) (h : zRel I J) : ∃ r I' J', fX7_status 1000 a I = some (r, I') ∧ fX8_status 1000 a J = some (r, J') ∧ zRel I' J' ∧ zO7 I I' ∧ zO8 J J' := by
  unfold fX7_status fX8_status
  simp only [within7, within8I, zb_s, zif]
  rw [show Int32.toInt (-1) = -1 from rfl, show Int64.toInt (-1) = -1 from rfl, show Int32.toInt 6 = ((7 : Nat) : Int) - 1 from rfl, show Int64.toInt 6 = ((7 : Nat) : Int) - 1 from rfl]
  by_cases hb : zbt (-1) (((7 : Nat) : Int) - 1) a
  · rw [zite_t hb, zite_t hb]
    rcases (hold_bt (m := 7) (by decide)).mp hb with q | ⟨c, hc, q⟩
    · have ha : a < 0 := by rw [q]; decide
      obtain ⟨r, e1, e2⟩ := stat_all h ha
      rw [if_pos ha, e1, e2, zb_s, zb_s]
      exact ⟨_, _, _, rfl, rfl, h, zO7.rf, zO8.rf⟩
    · subst q
      rw [if_neg (show ¬ nI c < 0 from nI_pos (by omega)), stat_one hc, zg_k _ hc, zn_k (show c < 2 ^ 31 by omega), h.2.2.2.1 c hc, zb_s]
      exact ⟨_, _, _, rfl, rfl, h, zO7.rf, zO8.rf⟩
  · rw [zite_f hb, zite_f hb]
    exact fin_leaf h 0
