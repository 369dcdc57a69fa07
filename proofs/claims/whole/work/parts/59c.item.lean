/-! which item it is -/
theorem wordOf_id : ∀ j : Nat, j < 7 → fX8_wordOf (nI j) = some (zlw j) := by decide
theorem down_id : ∀ j : Nat, j < 6 → nI (j + 1) + (-1) = nI j := by decide
theorem kindHere8 {b : Nat → Int32} {f t : Nat} {Y : zI} (isw : ∀ w : Nat, w < 17 → fX8_isWord 1000 (zlw w) Y = some (zp (mt b w f t))) : ∃ r, fX8_kindHere 1000 Y = some r ∧ ((∃ w : Nat, w < 7 ∧ r = nI w ∧ mt b w f t) ∨ (r = (-1) ∧ ∀ w : Nat, w < 7 → ¬ mt b w f t)) := by
  obtain ⟨r, r1, r2⟩ := zit_one (g := gX8_kindHere_3 1000 Y) (fun m s => (∃ j : Nat, j < 7 ∧ s = nI j ∧ m = j + 1 ∧ ∀ w : Nat, j < w → w < 7 → ¬ mt b w f t) ∨ (s = (-1) ∧ m = 0 ∧ ∀ w : Nat, w < 7 → ¬ mt b w f t)) (fun r => (∃ w : Nat, w < 7 ∧ r = nI w ∧ mt b w f t) ∨ (r = (-1) ∧ ∀ w : Nat, w < 7 → ¬ mt b w f t)) (by
    rintro m s (⟨j, hj, rfl, rfl, hb⟩ | ⟨rfl, rfl, hb⟩)
    · unfold gX8_kindHere_3
      rw [if_neg (nI_pos (by omega)), wordOf_id j hj, zb_s, isw j (by omega), zb_s, zif]
      by_cases q : mt b j f t
      · rw [zite_t q]
        exact Or.inr ⟨_, rfl, Or.inl ⟨j, hj, rfl, q⟩⟩
      · rw [zite_f q, zl_s]
        left
        have hb' : ∀ w : Nat, j ≤ w → w < 7 → ¬ mt b w f t := fun w h1 h2 => by
          by_cases z : w = j
          · rw [z]; exact q
          · exact hb w (by omega) h2
        cases j with
        | zero => exact ⟨_, 0, rfl, by omega, Or.inr ⟨rfl, rfl, fun w hw => hb' w (by omega) hw⟩⟩
        | succ j =>
          rw [down_id j (by omega)]
          exact ⟨_, j + 1, rfl, by omega, Or.inl ⟨j, by omega, rfl, rfl, fun w h1 h2 => hb' w (by omega) h2⟩⟩
    · unfold gX8_kindHere_3
      rw [if_pos (by decide)]
      exact Or.inr ⟨_, rfl, Or.inr ⟨rfl, hb⟩⟩) 1000 7 6 (Or.inl ⟨6, by omega, rfl, rfl, fun w h1 h2 => absurd h2 (by omega)⟩) (by omega)
  unfold fX8_kindHere
  rw [r1, zb_s]
  exact ⟨r, rfl, r2⟩
theorem item_sim {b : Nat → Int32} {n T k f c : Nat} {A X Y : zI} (hT : zTs b n T A) (hS : zSim b n T A k f X Y) (h4c : 4 * c ≤ f) (hc1 : X 38 2 = nI c) (h4 : X 38 4 = Y 51 11) (h5 : X 38 5 = Y 51 12) (hF : zWF (Y 51)) : ∃ X' Y', fX4_parseItem X = some X' ∧ fX8_item 1000 Y = some Y' ∧ zRes b n T A f c X Y X' Y' := by
  have hS' := hS
  obtain ⟨h1, h2, h3, hm1, h15, hk, t, h7, h8, h9⟩ := hS
  have hle := h7.here.le
  have hn := h2.2.2
  have isw : ∀ w : Nat, w < 17 → fX8_isWord 1000 (zlw w) Y = some (zp (mt b w f t)) := fun w hw => by
    rw [isWord8 h2 (zlw_lt w hw) hle.1 hle.2 h8 h9, zp_eq (show (Y 50 15 = 0 ∧ mt b (zlw w) f t) ↔ mt b w f t from ⟨fun z => (mt_lw hw).mp z.2, fun z => ⟨h15, (mt_lw hw).mpr z⟩⟩)]
  have tk0 : ∀ w : Nat, w < 17 → ¬ mt b w f t → fX8_takes 1000 (zlw w) Y = some (0, Y) := fun w hw hm => by
    unfold fX8_takes
    rw [isw w hw, zb_s, zp_f hm, if_pos rfl, zgb_0]
  have tk1 : ∀ (w : Nat) (Y1 : zI), w < 17 → mt b w f t → fX8_next 1000 Y = some Y1 → fX8_takes 1000 (zlw w) Y = some (1, Y1) := fun w Y1 hw hm e => by
    unfold fX8_takes
    rw [isw w hw, zb_s, zp_t hm, if_neg (by decide), e, zb_s, zgb_1]
  have z8 : ¬ mt b 8 f t → fX8_takes 1000 30 Y = some (0, Y) := tk0 8 (by omega)
  have z9 : ¬ mt b 9 f t → fX8_takes 1000 31 Y = some (0, Y) := tk0 9 (by omega)
  have z10 : ¬ mt b 10 f t → fX8_takes 1000 32 Y = some (0, Y) := tk0 10 (by omega)
  have z11 : ¬ mt b 11 f t → fX8_takes 1000 33 Y = some (0, Y) := tk0 11 (by omega)
  have z12 : ¬ mt b 12 f t → fX8_takes 1000 34 Y = some (0, Y) := tk0 12 (by omega)
  have o8 : mt b 8 f t → ∀ Y1, fX8_next 1000 Y = some Y1 → fX8_takes 1000 30 Y = some (1, Y1) := fun m Y1 e => tk1 8 Y1 (by omega) m e
  have o9 : mt b 9 f t → ∀ Y1, fX8_next 1000 Y = some Y1 → fX8_takes 1000 31 Y = some (1, Y1) := fun m Y1 e => tk1 9 Y1 (by omega) m e
  have o10 : mt b 10 f t → ∀ Y1, fX8_next 1000 Y = some Y1 → fX8_takes 1000 32 Y = some (1, Y1) := fun m Y1 e => tk1 10 Y1 (by omega) m e
  have o11 : mt b 11 f t → ∀ Y1, fX8_next 1000 Y = some Y1 → fX8_takes 1000 33 Y = some (1, Y1) := fun m Y1 e => tk1 11 Y1 (by omega) m e
  have o12 : mt b 12 f t → ∀ Y1, fX8_next 1000 Y = some Y1 → fX8_takes 1000 34 Y = some (1, Y1) := fun m Y1 e => tk1 12 Y1 (by omega) m e
  have i7 : fX8_isWord 1000 29 Y = some (zp (mt b 7 f t)) := isw 7 (by omega)
  obtain ⟨r, r1, r2⟩ := kindHere8 isw
  obtain ⟨v, v1, v2⟩ := wordAt7 hT h1 hk h7
  unfold fX4_parseItem fX8_item
  rw [h3, v1, zb_s, kind7, zb_s, zif, r1, zb_s]
  by_cases q : ∃ w : Nat, w < 13 ∧ mt b w f t
  · obtain ⟨w, hw, hm⟩ := q
    have hm' : ∃ t : Nat, zAt b n T A k f t ∧ mt b w f t := ⟨t, h7, hm⟩
    have uq : ∀ u : Nat, u < 17 → u ≠ w → ¬ mt b u f t := fun u hu hne z => hne (mt_one hu (by omega) z hm)
    have tt := (word_tok hS' hw hm').2 t h7
    have hP : zPre b n T A k f c X Y := ⟨hS', by omega, hc1, h4, h5, hF⟩
    have ev : v = nI w := by
      rcases v2 with ⟨x, x1, x2, x3⟩ | ⟨_, x⟩
      · rw [x2, mt_one x1 (show w < 17 by omega) x3 hm]
      · exact absurd hm (x w (by omega))
    have ne : ∀ u : Nat, u < 17 → u ≠ w → ¬ v = nI u := fun u hu hne z => hne ((nI_eq (by omega) (by omega)).mp (ev.symm.trans z)).symm
    by_cases q7 : w < 7
    · have er : r = nI w := by
        rcases r2 with ⟨x, x1, x2, x3⟩ | ⟨_, x⟩
        · rw [x2, mt_one (show x < 17 by omega) (show w < 17 by omega) x3 hm]
        · exact absurd hm (x w (by omega))
      obtain ⟨X', Y', a1, a2, a3⟩ := thing_sim hT hP q7 hm'
      rw [if_neg (show ¬ v = 7 from ne 7 (by omega) (by omega)), if_neg (show ¬ v = 8 from ne 8 (by omega) (by omega)), if_neg (show ¬ v = 9 from ne 9 (by omega) (by omega)), if_neg (show ¬ v = 10 from ne 10 (by omega) (by omega)), if_neg (show ¬ v = 11 from ne 11 (by omega) (by omega)), if_neg (show ¬ v = 12 from ne 12 (by omega) (by omega)), zite_t (show zlt 7 v from ⟨w, q7, ev⟩), ev, a1, zb_s, er, if_neg (nI_pos (by omega)), a2, zb_s]
      exact ⟨_, _, rfl, rfl, a3⟩
    · have er : r = (-1) := by
        rcases r2 with ⟨x, x1, x2, x3⟩ | ⟨x, _⟩
        · exact absurd x3 (uq x (by omega) (by omega))
        · exact x
      rw [er, if_pos (show (-1 : Int32) < 0 by decide), i7, zb_s, zif]
      by_cases w7 : w = 7
      · subst w7
        obtain ⟨X', Y', a1, a2, a3⟩ := one_sim hT hP hm'
        rw [if_pos (show v = 7 from ev), a1, zb_s, zite_t hm, a2, zb_s]
        exact ⟨_, _, rfl, rfl, a3⟩
      rw [if_neg (show ¬ v = 7 from ne 7 (by omega) (fun z => w7 z.symm)), zite_f (uq 7 (by omega) (fun z => w7 z.symm))]
      by_cases w8 : w = 8
      · subst w8
        obtain ⟨Y1, s1, X', Y', a1, a2, a3⟩ := door_sim (o := 1) hT hP hw (by omega) hm'
        have a1 : fX4_parseDoor 1 X = some X' := a1
        have a2 : fX8_doorTold 1000 1 Y1 = some Y' := a2
        rw [if_pos (show v = 8 from ev), a1, zb_s, o8 hm Y1 s1, zb_s]
        dsimp only
        rw [if_neg (by decide), a2, zb_s]
        exact ⟨_, _, rfl, rfl, a3⟩
      rw [if_neg (show ¬ v = 8 from ne 8 (by omega) (fun z => w8 z.symm)), z8 (uq 8 (by omega) (fun z => w8 z.symm)), zb_s]
      dsimp only
      rw [if_pos rfl]
      by_cases w9 : w = 9
      · subst w9
        obtain ⟨Y1, s1, X', Y', a1, a2, a3⟩ := door_sim (o := 0) hT hP hw (by omega) hm'
        have a1 : fX4_parseDoor 0 X = some X' := a1
        have a2 : fX8_doorTold 1000 0 Y1 = some Y' := a2
        rw [if_pos (show v = 9 from ev), a1, zb_s, o9 hm Y1 s1, zb_s]
        dsimp only
        rw [if_neg (by decide), a2, zb_s]
        exact ⟨_, _, rfl, rfl, a3⟩
      rw [if_neg (show ¬ v = 9 from ne 9 (by omega) (fun z => w9 z.symm)), z9 (uq 9 (by omega) (fun z => w9 z.symm)), zb_s]
      dsimp only
      rw [if_pos rfl]
      by_cases w10 : w = 10
      · subst w10
        obtain ⟨Y1, s1, X', Y', a1, a2, a3⟩ := rule_sim (x := 0) (hi := 7) hT hP hw (by omega) (Or.inr ⟨by omega, rfl⟩) hm'
        have a1 : fX4_parseRule 0 7 X = some X' := a1
        have a2 : fX8_ruleTold 1000 0 7 Y1 = some Y' := a2
        rw [if_pos (show v = 10 from ev), a1, zb_s, o10 hm Y1 s1, zb_s]
        dsimp only
        rw [if_neg (by decide), a2, zb_s]
        exact ⟨_, _, rfl, rfl, a3⟩
      rw [if_neg (show ¬ v = 10 from ne 10 (by omega) (fun z => w10 z.symm)), z10 (uq 10 (by omega) (fun z => w10 z.symm)), zb_s]
      dsimp only
      rw [if_pos rfl]
      by_cases w11 : w = 11
      · subst w11
        obtain ⟨Y1, s1, X', Y', a1, a2, a3⟩ := rule_sim (x := 1) (hi := 7) hT hP hw (by omega) (Or.inr ⟨by omega, rfl⟩) hm'
        have a1 : fX4_parseRule 1 7 X = some X' := a1
        have a2 : fX8_ruleTold 1000 1 7 Y1 = some Y' := a2
        rw [if_pos (show v = 11 from ev), a1, zb_s, o11 hm Y1 s1, zb_s]
        dsimp only
        rw [if_neg (by decide), a2, zb_s]
        exact ⟨_, _, rfl, rfl, a3⟩
      rw [if_neg (show ¬ v = 11 from ne 11 (by omega) (fun z => w11 z.symm)), z11 (uq 11 (by omega) (fun z => w11 z.symm)), zb_s]
      dsimp only
      rw [if_pos rfl]
      have w12 : w = 12 := by omega
      subst w12
      obtain ⟨Y1, s1, X', Y', a1, a2, a3⟩ := rule_sim (x := 2) (hi := 100) hT hP hw (by omega) (Or.inl ⟨rfl, rfl⟩) hm'
      have a1 : fX4_parseRule 2 100 X = some X' := a1
      have a2 : fX8_ruleTold 1000 2 100 Y1 = some Y' := a2
      rw [if_pos (show v = 12 from ev), a1, zb_s, o12 hm Y1 s1, zb_s]
      dsimp only
      rw [if_neg (by decide), a2, zb_s]
      exact ⟨_, _, rfl, rfl, a3⟩
  · have no : ∀ w : Nat, w < 13 → ¬ mt b w f t := fun w hw z => q ⟨w, hw, z⟩
    have nv : ∀ u : Nat, u < 13 → ¬ v = nI u := by
      intro u hu z
      rcases v2 with ⟨x, x1, x2, x3⟩ | ⟨x, _⟩
      · have e : x = u := (nI_eq (by omega) (by omega)).mp (x2.symm.trans z)
        exact no u hu (e ▸ x3)
      · exact nI_nm1 (d := u) (by omega) (z.symm.trans x)
    have er : r = (-1) := by
      rcases r2 with ⟨x, x1, x2, x3⟩ | ⟨x, _⟩
      · exact absurd x3 (no x (by omega))
      · exact x
    obtain ⟨X', a1, a2, a3⟩ := refuse7 (Y' := zup Y 50 15 1) hS' zF8.u15 (zup_r (by omega)) (zup_r (by omega)) zup_s
    rw [er, if_pos (show (-1 : Int32) < 0 by decide), i7, zb_s, zif, zite_f (no 7 (by omega)), z8 (no 8 (by omega)), zb_s]
    dsimp only
    rw [if_pos rfl, z9 (no 9 (by omega)), zb_s]
    dsimp only
    rw [if_pos rfl, z10 (no 10 (by omega)), zb_s]
    dsimp only
    rw [if_pos rfl, z11 (no 11 (by omega)), zb_s]
    dsimp only
    rw [if_pos rfl, z12 (no 12 (by omega)), zb_s]
    dsimp only
    rw [if_pos rfl, zl_s, if_neg (show ¬ v = 7 from nv 7 (by omega)), if_neg (show ¬ v = 8 from nv 8 (by omega)), if_neg (show ¬ v = 9 from nv 9 (by omega)), if_neg (show ¬ v = 10 from nv 10 (by omega)), if_neg (show ¬ v = 11 from nv 11 (by omega)), if_neg (show ¬ v = 12 from nv 12 (by omega)), zite_f (fun ⟨u, hu, e⟩ => nv u (by omega) e), a1, zb_s]
    exact ⟨_, _, rfl, rfl, a2.g, zF8.u15.g, ⟨c, by omega, (a2 38 2 (by omega)).trans hc1⟩, Or.inr a3⟩
