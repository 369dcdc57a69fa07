/-! copy -/
theorem nI_of_le {x : Int32} (h : 0 ≤ x.toInt) : ∃ k : Nat, (k : Int) = x.toInt ∧ x = nI k := by
  have h3 := Int32.toInt_lt x
  refine ⟨x.toInt.toNat, by omega, Int32.toInt_inj.mp ?_⟩
  rw [nI_toInt (by omega)]
  omega
theorem lt0_iff (x : Int32) : x < 0 ↔ ¬ 0 ≤ x.toInt := by
  rw [Int32.lt_iff_toInt_lt, show (0 : Int32).toInt = 0 from rfl]
  omega
theorem hasRow2 {w l : Nat} {I : zI} (e : I w 1 = nI l) (hl : l < 41) (a n : Int32) : fX2_hasRow w a n I = some (zp (0 ≤ a.toInt ∧ 0 ≤ n.toInt ∧ a.toInt + n.toInt ≤ l)) := by
  unfold fX2_hasRow
  rw [e]
  by_cases h1 : 0 ≤ a.toInt
  · rw [if_neg (fun z => (lt0_iff a).mp z h1)]
    by_cases h2 : 0 ≤ n.toInt
    · rw [if_neg (fun z => (lt0_iff n).mp z h2)]
      obtain ⟨k, k1, rfl⟩ := nI_of_le h2
      obtain ⟨j, j1, rfl⟩ := nI_of_le h1
      have k3 := Int32.toInt_lt (nI k)
      have j3 := Int32.toInt_lt (nI j)
      by_cases h3 : k ≤ l
      · rw [if_neg (nI_nlt h3 (by omega)), pk_sub h3]
        by_cases h4 : j ≤ l - k
        · rw [if_neg (nI_nlt h4 (by omega)), zp_t ⟨h1, h2, by omega⟩]
        · rw [if_pos (nI_lt (by omega) (by omega)), zp_f (fun z => h4 (by have := z.2.2; omega))]
      · rw [if_pos (nI_lt (by omega) (by omega)), zp_f (fun z => h3 (by have := z.2.2; omega))]
    · rw [if_pos ((lt0_iff n).mpr h2), zp_f (fun z => h2 z.2.1)]
  · rw [if_pos ((lt0_iff a).mpr h1), zp_f (fun z => h1 z.1)]
theorem addL (a b : Int32) : (a.toInt64 + b.toInt64).toInt = a.toInt + b.toInt := by
  have a1 := Int32.toInt_lt a
  have a2 := Int32.le_toInt a
  have b1 := Int32.toInt_lt b
  have b2 := Int32.le_toInt b
  rw [Int64.toInt_add, Int32.toInt_toInt64, Int32.toInt_toInt64, Int.bmod_eq_of_le (by omega) (by omega)]
theorem sum_gt {l : Nat} (hl : l < 41) (a b : Int32) : 0 < lg_cmp (a.toInt64 + b.toInt64) (nI l).toInt64 ↔ ¬ a.toInt + b.toInt ≤ l := by
  rw [lg_cmp_gt, Int64.lt_iff_toInt_lt, addL, Int32.toInt_toInt64, nI_toInt (by omega)]
  omega
theorem fits8 {s t l1 l2 : Nat} {J : zI} (hs : s < 4) (ht : t < 4) (e1 : J 59 s = nI l1) (e2 : J 59 t = nI l2) (h1 : l1 < 41) (h2 : l2 < 41) (a2 a4 a5 : Int32) : (zbs (if a5 < 0 then some (.inr ()) else if a2 < 0 then some (.inr ()) else if a4 < 0 then some (.inr ()) else zg (nI s) 4 (if 0 < (lg_cmp (a2.toInt64 + a5.toInt64) ((J 59 (zn (nI s))).toInt64)) then some (.inr ()) else zg (nI t) 4 (if 0 < (lg_cmp (a4.toInt64 + a5.toInt64) ((J 59 (zn (nI t))).toInt64)) then some (.inr ()) else some (.inl 1)))) fun x15 : Unit => some (0 : Int32)) = some (zp ((0 ≤ a2.toInt ∧ 0 ≤ a5.toInt ∧ a2.toInt + a5.toInt ≤ l1) ∧ (0 ≤ a4.toInt ∧ 0 ≤ a5.toInt ∧ a4.toInt + a5.toInt ≤ l2))) := by
  rw [zg_k _ hs, zg_k _ ht, zn_k (show s < 2 ^ 31 by omega), zn_k (show t < 2 ^ 31 by omega), e1, e2]
  by_cases q1 : 0 ≤ a5.toInt
  · rw [if_neg (fun z => (lt0_iff a5).mp z q1)]
    by_cases q2 : 0 ≤ a2.toInt
    · rw [if_neg (fun z => (lt0_iff a2).mp z q2)]
      by_cases q3 : 0 ≤ a4.toInt
      · rw [if_neg (fun z => (lt0_iff a4).mp z q3)]
        by_cases q4 : a2.toInt + a5.toInt ≤ l1
        · rw [if_neg (fun z => (sum_gt h1 a2 a5).mp z q4)]
          by_cases q5 : a4.toInt + a5.toInt ≤ l2
          · rw [if_neg (fun z => (sum_gt h2 a4 a5).mp z q5), zbs_l, zp_t ⟨⟨q2, q1, q4⟩, q3, q1, q5⟩]
          · rw [if_pos ((sum_gt h2 a4 a5).mpr q5), zbs_r, zp_f (fun z => q5 z.2.2.2)]
        · rw [if_pos ((sum_gt h1 a2 a5).mpr q4), zbs_r, zp_f (fun z => q4 z.1.2.2)]
      · rw [if_pos ((lt0_iff a4).mpr q3), zbs_r, zp_f (fun z => q3 z.2.1)]
    · rw [if_pos ((lt0_iff a2).mpr q2), zbs_r, zp_f (fun z => q2 z.1.1)]
  · rw [if_pos ((lt0_iff a5).mpr q1), zbs_r, zp_f (fun z => q1 z.1.2.1)]
theorem copy_a {s f k : Nat} (hs : s < 4) (hf : f + k ≤ 40) (J : zI) : ∃ X, zit (gX8_copy_135 (nI s) (nI f) (nI k)) 1000 (0, J) = some X ∧ (∀ j : Nat, j < k → X 61 j = J 60 (40 * s + f + j)) ∧ ∀ c : Nat, c ≠ 61 → X c = J c := by
  refine zit_one (g := gX8_copy_135 (nI s) (nI f) (nI k)) (fun m y => ∃ (j : Nat) (X : zI), j ≤ k ∧ m = k - j ∧ y = (nI j, X) ∧ (∀ i : Nat, i < j → X 61 i = J 60 (40 * s + f + i)) ∧ ∀ c : Nat, c ≠ 61 → X c = J c) (fun X : zI => (∀ j : Nat, j < k → X 61 j = J 60 (40 * s + f + j)) ∧ ∀ c : Nat, c ≠ 61 → X c = J c) ?_ 1000 k (0, J) ⟨0, J, by omega, by omega, rfl, fun i hi => absurd hi (by omega), fun _ _ => rfl⟩ (by omega)
  rintro m y ⟨j, X, hj, rfl, rfl, h1, h2⟩
  unfold gX8_copy_135
  dsimp only
  by_cases q : j = k
  · subst q
    right
    rw [if_pos (Int32.le_refl _)]
    exact ⟨X, rfl, h1, h2⟩
  left
  rw [if_neg (zz_nle (by omega) (by omega)), show (40 : Int32) * nI s + nI f + nI j = nI (40 * s + f + j) by rw [show (40 : Int32) * nI s = nI (40 * s) from pk_mul 40 s, nI_add, nI_add], zg_k _ (show 40 * s + f + j < 160 by omega), zg_k _ (show j < 40 by omega), zn_k (show 40 * s + f + j < 2 ^ 31 by omega), zn_k (show j < 2 ^ 31 by omega), zl_s, zl_s, nI_1]
  refine ⟨_, k - (j + 1), rfl, by omega, j + 1, _, by omega, rfl, rfl, fun i hi => ?_, fun c hc => (zup_ne hc).trans (h2 c hc)⟩
  rw [zup_at]
  by_cases z : i = j
  · rw [if_pos ⟨rfl, z⟩, z, h2 60 (by omega)]
  · rw [if_neg (fun y => z y.2)]; exact h1 i (by omega)
theorem copy_b {t g k : Nat} (ht : t < 4) (hg : g + k ≤ 40) (J : zI) : ∃ X, zit (gX8_copy_172 (nI t) (nI g) (nI k)) 1000 (0, J) = some X ∧ (∀ x : Nat, X 60 x = if 40 * t + g ≤ x ∧ x < 40 * t + g + k then J 61 (x - (40 * t + g)) else J 60 x) ∧ ∀ c : Nat, c ≠ 60 → X c = J c := by
  refine zit_one (g := gX8_copy_172 (nI t) (nI g) (nI k)) (fun m y => ∃ (j : Nat) (X : zI), j ≤ k ∧ m = k - j ∧ y = (nI j, X) ∧ (∀ x : Nat, X 60 x = if 40 * t + g ≤ x ∧ x < 40 * t + g + j then J 61 (x - (40 * t + g)) else J 60 x) ∧ ∀ c : Nat, c ≠ 60 → X c = J c) (fun X : zI => (∀ x : Nat, X 60 x = if 40 * t + g ≤ x ∧ x < 40 * t + g + k then J 61 (x - (40 * t + g)) else J 60 x) ∧ ∀ c : Nat, c ≠ 60 → X c = J c) ?_ 1000 k (0, J) ⟨0, J, by omega, by omega, rfl, fun x => by rw [if_neg (by omega)], fun _ _ => rfl⟩ (by omega)
  rintro m y ⟨j, X, hj, rfl, rfl, h1, h2⟩
  unfold gX8_copy_172
  dsimp only
  by_cases q : j = k
  · subst q
    right
    rw [if_pos (Int32.le_refl _)]
    exact ⟨X, rfl, h1, h2⟩
  left
  rw [if_neg (zz_nle (by omega) (by omega)), show (40 : Int32) * nI t + nI g + nI j = nI (40 * t + g + j) by rw [show (40 : Int32) * nI t = nI (40 * t) from pk_mul 40 t, nI_add, nI_add], zg_k _ (show j < 40 by omega), zg_k _ (show 40 * t + g + j < 160 by omega), zn_k (show 40 * t + g + j < 2 ^ 31 by omega), zn_k (show j < 2 ^ 31 by omega), zl_s, zl_s, nI_1]
  refine ⟨_, k - (j + 1), rfl, by omega, j + 1, _, by omega, rfl, rfl, fun x => ?_, fun c hc => (zup_ne hc).trans (h2 c hc)⟩
  rw [zup_at]
  by_cases z : x = 40 * t + g + j
  · rw [if_pos ⟨rfl, z⟩, if_pos (by omega), h2 61 (by omega), z, Nat.add_sub_cancel_left]
  · rw [if_neg (fun y => z y.2), h1]
    by_cases y : 40 * t + g ≤ x ∧ x < 40 * t + g + j
    · rw [if_pos y, if_pos (by omega)]
    · rw [if_neg y, if_neg (by omega)]
theorem q_copy (a b c d e : Int32) (I J : zI) (h : zRel I J) : ∃ r I' J', fX7_copy a b c d e I = some (r, I') ∧ fX8_copy 1000 a b c d e J = some (r, J') ∧ zRel I' J' ∧ zO7 I I' ∧ zO8 J J' := by
  unfold fX7_copy fX8_copy
  rw [sheet7, sheet8, sheet7, sheet8, zb_s, zb_s, zb_s, zb_s, zif, zif, zif, zif]
  by_cases ha : ¬ zlt 4 a
  · rw [zite_f ha, zite_f ha]; exact fin_leaf h 0
  replace ha := Classical.not_not.mp ha
  rw [zite_t ha, zite_t ha]
  by_cases hc : ¬ zlt 4 c
  · rw [zite_f hc, zite_f hc]; exact fin_leaf h 0
  replace hc := Classical.not_not.mp hc
  rw [zite_t hc, zite_t hc]
  obtain ⟨s, hs, rfl⟩ := ha
  obtain ⟨t, ht, rfl⟩ := hc
  obtain ⟨s0, s1, sc, ⟨l1, hl1, sm⟩, sb⟩ := h.2.2.2.2 s hs
  obtain ⟨t0, t1, tc, ⟨l2, hl2, tm⟩, tb⟩ := h.2.2.2.2 t ht
  have es : I (42 + 2 * s) 1 = nI l1 := s1.trans sm
  have et : I (42 + 2 * t) 1 = nI l2 := t1.trans tm
  have m1 : ∀ {α : Type} (x : Option α), zg (nI s) 4 x = x := fun x => zg_k x hs
  have m2 : ∀ {α : Type} (x : Option α), zg (nI t) 4 x = x := fun x => zg_k x ht
  have z1 : zn (nI s) = s := zn_k (by omega)
  have z2 : zn (nI t) = t := zn_k (by omega)
  simp only [m1, m2, z1, z2, miss2, zb_s, zif, s0, t0, hasRow2 es hl1, hasRow2 et hl2]
  have hfit := fits8 (J := J) hs ht sm tm hl1 hl2 b d e
  simp only [m1, m2, z1, z2] at hfit
  rw [hfit, zb_s, zif]
  by_cases q1 : J 58 s = 0
  · rw [zite_t q1, if_pos q1]; exact fin_leaf h 5
  rw [zite_f q1, if_neg q1]
  by_cases q2 : J 58 t = 0
  · rw [zite_t q2, if_pos q2]; exact fin_leaf h 5
  rw [zite_f q2, if_neg q2]
  by_cases q3 : ¬ J 58 s = J 58 t
  · rw [if_neg q3, if_neg q3]; exact fin_leaf h 2
  replace q3 := Classical.not_not.mp q3
  rw [if_pos q3, if_pos q3]
  by_cases p1 : ¬ (0 ≤ b.toInt ∧ 0 ≤ e.toInt ∧ b.toInt + e.toInt ≤ l1)
  · rw [zite_f p1, zite_f (fun z => p1 z.1)]; exact fin_leaf h 0
  replace p1 := Classical.not_not.mp p1
  rw [zite_t p1]
  by_cases p2 : ¬ (0 ≤ d.toInt ∧ 0 ≤ e.toInt ∧ d.toInt + e.toInt ≤ l2)
  · rw [zite_f p2, zite_f (fun z => p2 z.2)]; exact fin_leaf h 0
  replace p2 := Classical.not_not.mp p2
  rw [zite_t p2, zite_t ⟨p1, p2⟩]
  obtain ⟨f, f1, rfl⟩ := nI_of_le p1.1
  obtain ⟨g, g1, rfl⟩ := nI_of_le p2.1
  obtain ⟨k, k1, rfl⟩ := nI_of_le p1.2.1
  have fk : f + k ≤ 40 := by have := p1.2.2; omega
  have gk : g + k ≤ 40 := by have := p2.2.2; omega
  obtain ⟨X, x1, x2, x3⟩ := copy_a (k := k) hs fk J
  obtain ⟨Y, y1, y2, y3⟩ := copy_b (k := k) ht gk X
  rw [x1, zb_s, y1, zb_s]
  unfold zgc
  rw [zn_k (show f < 2 ^ 31 by omega), zn_k (show g < 2 ^ 31 by omega), zn_k (show k < 2 ^ 31 by omega), if_pos ⟨nI_pos' (by omega), nI_pos' (by omega), nI_pos' (by omega), fk, gk⟩, zl_s]
  have hY : ∀ x : Nat, Y 60 x = if 40 * t + g ≤ x ∧ x < 40 * t + g + k then J 60 (40 * s + f + (x - (40 * t + g))) else J 60 x := fun x => by
    rw [y2]
    by_cases z : 40 * t + g ≤ x ∧ x < 40 * t + g + k
    · rw [if_pos z, if_pos z, x2 _ (by omega)]
    · rw [if_neg z, if_neg z, x3 60 (by omega)]
  refine ⟨_, _, _, rfl, rfl, zRel_sheet h (fun u hu => ?_) (fun x hx => ?_) (fun x hx => (y3 x (by omega)).trans (x3 x (by omega))), fun x hx => ?_, fun x hx => (y3 x (by omega)).trans (x3 x (by omega))⟩
  · obtain ⟨u0, u1, u2, u3, u4⟩ := h.2.2.2.2 u hu
    rw [y3 58 (by omega), y3 59 (by omega), x3 58 (by omega), x3 59 (by omega)]
    unfold zset
    rw [if_neg (show ¬ 42 + 2 * u = 42 + 2 * t + 1 by omega)]
    refine ⟨u0, u1, fun x hx => ?_, u3, u4⟩
    rw [hY]
    by_cases z : u = t
    · subst z
      rw [if_pos (show 43 + 2 * u = 42 + 2 * u + 1 by omega)]
      by_cases y : g ≤ x ∧ x < g + k
      · rw [pk_cpy_in y.1 y.2, if_pos (by omega), show 42 + 2 * s + 1 = 43 + 2 * s by omega, sc _ (by omega), show 40 * s + (f + (x - g)) = 40 * s + f + (40 * u + x - (40 * u + g)) by omega]
      · rw [pk_cpy_out (by omega), if_neg (by omega), show 42 + 2 * u + 1 = 43 + 2 * u by omega]
        exact u2 x hx
    · rw [if_neg (show ¬ 43 + 2 * u = 42 + 2 * t + 1 by omega), if_neg (by omega)]
      exact u2 x hx
  · unfold zset; rw [if_neg (by omega)]
  · unfold zset; show (if x = _ then _ else _) = _; rw [if_neg (by omega)]
