theorem zcm_far : ∀ j : Nat, j < 60 → ¬ (zcm 1 j).1 = 8 := by decide +kernel
theorem zcm_is {j k c s : Nat} (hj : j < 120) (hk : k < 120) (hc : zcm 1 k = (c, s)) (e1 : (zcm 1 j).1 = c) (e2 : (zcm 1 j).2 = s) : j = k := zcm_inj (w := 1) hj hk (by rw [hc]; exact Prod.ext e1 e2)
/-- the booking, on both sides -/
theorem bk_rel {I J I' J' : zI} {i t r f : Nat} {v B : Int32} (h : zRw 1 I J) (hB : zlt 13 B) (ht : t < 8) (hr : r < 8) (hf : J 51 (36 + t) = nI f)
    (hI : ∀ c s : Nat, I' c s = if c = 1 ∧ s = 12 then I 1 12 + v else if c = 1 ∧ s = 11 then I 1 11 + 1 else if c = 1 ∧ s = 13 then B else if c = 8 ∧ s = 0 then nI i else if c = 8 ∧ s = 1 then nI t else if c = 8 ∧ s = 2 then nI f else if c = 8 ∧ s = 3 then nI r else if c = 8 ∧ s = 4 then v else if c = 8 ∧ 5 ≤ s ∧ s < 60 then I 8 (s - 5) else if c = 4 ∧ s = t then nI r else I c s)
    (hJ : ∀ c s : Nat, J' c s = if c = 51 ∧ s = 14 then J 51 14 + v else if c = 51 ∧ s = 13 then J 51 13 + 1 else if c = 51 ∧ s = 36 + t then nI r else if c = 51 ∧ s = 17 then B else if c = 51 ∧ s = 60 then nI i else if c = 51 ∧ s = 61 then nI t else if c = 51 ∧ s = 62 then nI f else if c = 51 ∧ s = 63 then nI r else if c = 51 ∧ s = 64 then v else if c = 51 ∧ 65 ≤ s ∧ s < 120 then J 51 (s - 5) else J c s) : zRw 1 I' J' := by
  refine ⟨fun j hj => ?_, ⟨fun j hj => ?_, fun k hk => ?_, fun a b ha hb => ?_⟩⟩
  · by_cases q14 : j = 14
    · subst q14
      show I' 1 12 = J' 51 14
      rw [hI, hJ, if_pos ⟨rfl, rfl⟩, if_pos ⟨rfl, rfl⟩, h.met]
    by_cases q13 : j = 13
    · subst q13
      show I' 1 11 = J' 51 13
      rw [hI, hJ, if_neg (by omega), if_pos ⟨rfl, rfl⟩, if_neg (by omega), if_pos ⟨rfl, rfl⟩, h.moves]
    by_cases q17 : j = 17
    · subst q17
      show I' 1 13 = J' 51 17
      rw [hI, hJ, if_neg (by omega), if_neg (by omega), if_pos ⟨rfl, rfl⟩, if_neg (by omega), if_neg (by omega), if_neg (by omega), if_pos ⟨rfl, rfl⟩]
    by_cases q36 : j = 36 + t
    · subst q36
      unfold rW
      rw [zcm_room ht]
      show I' 4 t = J' 51 (36 + t)
      rw [hI, hJ, if_neg (by omega), if_neg (by omega), if_neg (by omega), if_neg (by omega), if_neg (by omega), if_neg (by omega), if_neg (by omega), if_neg (by omega), if_neg (by omega), if_pos ⟨rfl, rfl⟩, if_neg (by omega), if_neg (by omega), if_pos ⟨rfl, rfl⟩]
    by_cases q60 : 60 ≤ j
    · obtain ⟨k, rfl⟩ : ∃ k, j = 60 + k := ⟨j - 60, by omega⟩
      unfold rW
      rw [zcm_book]
      show I' 8 k = J' 51 (60 + k)
      have e5 : ∀ _ : 5 ≤ k, I 8 (k - 5) = J 51 (60 + k - 5) := fun z => by
        rw [show I 8 (k - 5) = _ from h.book (k := k - 5) (by omega), show 60 + (k - 5) = 60 + k - 5 by omega]
      by_cases k0 : k = 0
      · rw [hI, hJ, if_neg (by omega), if_neg (by omega), if_neg (by omega), if_pos (by omega), if_neg (by omega), if_neg (by omega), if_neg (by omega), if_neg (by omega), if_pos (by omega)]
      by_cases k1 : k = 1
      · rw [hI, hJ, if_neg (by omega), if_neg (by omega), if_neg (by omega), if_neg (by omega), if_pos (by omega), if_neg (by omega), if_neg (by omega), if_neg (by omega), if_neg (by omega), if_neg (by omega), if_pos (by omega)]
      by_cases k2 : k = 2
      · rw [hI, hJ, if_neg (by omega), if_neg (by omega), if_neg (by omega), if_neg (by omega), if_neg (by omega), if_pos (by omega), if_neg (by omega), if_neg (by omega), if_neg (by omega), if_neg (by omega), if_neg (by omega), if_neg (by omega), if_pos (by omega)]
      by_cases k3 : k = 3
      · rw [hI, hJ, if_neg (by omega), if_neg (by omega), if_neg (by omega), if_neg (by omega), if_neg (by omega), if_neg (by omega), if_pos (by omega), if_neg (by omega), if_neg (by omega), if_neg (by omega), if_neg (by omega), if_neg (by omega), if_neg (by omega), if_neg (by omega), if_pos (by omega)]
      by_cases k4 : k = 4
      · rw [hI, hJ, if_neg (by omega), if_neg (by omega), if_neg (by omega), if_neg (by omega), if_neg (by omega), if_neg (by omega), if_neg (by omega), if_pos (by omega), if_neg (by omega), if_neg (by omega), if_neg (by omega), if_neg (by omega), if_neg (by omega), if_neg (by omega), if_neg (by omega), if_neg (by omega), if_pos (by omega)]
      rw [hI, hJ, if_neg (by omega), if_neg (by omega), if_neg (by omega), if_neg (by omega), if_neg (by omega), if_neg (by omega), if_neg (by omega), if_neg (by omega), if_pos (by omega), if_neg (by omega), if_neg (by omega), if_neg (by omega), if_neg (by omega), if_neg (by omega), if_neg (by omega), if_neg (by omega), if_neg (by omega), if_neg (by omega), if_pos (by omega)]
      exact e5 (by omega)
    · have e := h.1 j hj
      unfold rW at e ⊢
      rw [hI, hJ]
      have f8 := zcm_far j (by omega)
      have z12 : ¬ ((zcm 1 j).1 = 1 ∧ (zcm 1 j).2 = 12) := fun q => q14 (zcm_is hj (by omega) rfl q.1 q.2)
      have z11 : ¬ ((zcm 1 j).1 = 1 ∧ (zcm 1 j).2 = 11) := fun q => q13 (zcm_is hj (by omega) rfl q.1 q.2)
      have z13 : ¬ ((zcm 1 j).1 = 1 ∧ (zcm 1 j).2 = 13) := fun q => q17 (zcm_is hj (by omega) rfl q.1 q.2)
      have z4 : ¬ ((zcm 1 j).1 = 4 ∧ (zcm 1 j).2 = t) := fun q => q36 (zcm_is hj (by omega) (zcm_room ht) q.1 q.2)
      rw [if_neg z12, if_neg z11, if_neg z13, if_neg (fun q => f8 q.1), if_neg (fun q => f8 q.1), if_neg (fun q => f8 q.1), if_neg (fun q => f8 q.1), if_neg (fun q => f8 q.1), if_neg (fun q => f8 q.1), if_neg z4]
      rw [if_neg (by omega), if_neg (by omega), if_neg (by omega), if_neg (by omega), if_neg (by omega), if_neg (by omega), if_neg (by omega), if_neg (by omega), if_neg (by omega), if_neg (by omega)]
      exact e
  · rw [hJ]
    by_cases q36 : j = 36 + t
    · subst q36
      rw [if_neg (by omega), if_neg (by omega), if_pos ⟨rfl, rfl⟩, zok_room ht]
      exact ⟨r, hr, rfl⟩
    by_cases q17 : j = 17
    · subst q17
      rw [if_neg (by omega), if_neg (by omega), if_neg (by omega), if_pos ⟨rfl, rfl⟩]
      show zlt 13 _
      exact hB
    by_cases q : j = 13 ∨ j = 14 ∨ 60 ≤ j
    · exact zok_free (by omega)
    · rw [if_neg (by omega), if_neg (by omega), if_neg (by omega), if_neg (by omega), if_neg (by omega), if_neg (by omega), if_neg (by omega), if_neg (by omega), if_neg (by omega), if_neg (by omega)]
      exact h.2.1 j hj
  · have e : ∀ j : Nat, j < 36 → j ≠ 13 → j ≠ 14 → j ≠ 17 → J' 51 j = J 51 j := by
      intro j hj h1 h2 h3
      rw [hJ, if_neg (by omega), if_neg (by omega), if_neg (by omega), if_neg (by omega), if_neg (by omega), if_neg (by omega), if_neg (by omega), if_neg (by omega), if_neg (by omega), if_neg (by omega)]
    rw [e (18 + k) (by omega) (by omega) (by omega) (by omega), e 11 (by omega) (by omega) (by omega) (by omega)]
    exact h.2.2.1 k hk
  · have e : ∀ j : Nat, j < 8 → J' 51 j = J 51 j := by
      intro j hj
      rw [hJ, if_neg (by omega), if_neg (by omega), if_neg (by omega), if_neg (by omega), if_neg (by omega), if_neg (by omega), if_neg (by omega), if_neg (by omega), if_neg (by omega), if_neg (by omega)]
    rw [e a ha, e b hb]
    exact h.2.2.2 a b ha hb
theorem stand_all {I J : zI} {m : Nat} (hf : zWF (J 51)) (hm : m < 5) (e8 : J 51 12 = nI m) (e7 : I 1 8 = nI m) (ho : ∀ k : Nat, k < 4 → I (1 + 5) k = J 51 (52 + k)) (a : Int32) : ∃ v : Int32, fX6_standingIn 1000 1 a I = some v ∧ fX8_standing 1000 a (-1) J = some v := by
  have e12 : ∀ t : Option ((Int32 × Int32) ⊕ Int32), zg 12 120 t = t := fun t => zg_k (i := 12) t (by decide)
  have n12 : zn 12 = 12 := rfl
  unfold fX6_standingIn fX8_standing
  obtain ⟨r, u, e1, e2, e3⟩ := zit_rel (g := gX6_standingIn_4 1 a I) (f := gX8_standing_5 a (-1) J) (fun k s t => ∃ (j : Nat) (v : Int32), j ≤ m ∧ k = m - j ∧ s = (v, nI j) ∧ t = (v, nI j)) (fun r u => r = u) (by
    rintro k s t ⟨j, v, hj, rfl, rfl, rfl⟩
    unfold gX6_standingIn_4 gX8_standing_5
    simp only [e12, n12, e7, e8, zl_s, nI_1, Int32.add_zero]
    by_cases q : j = m
    · subst q
      right
      rw [if_pos (Int32.le_refl _), if_pos (Int32.le_refl _)]
      exact ⟨v, v, rfl, rfl, rfl⟩
    · left
      have hj4 : j < 4 := by omega
      obtain ⟨p, hp, ep⟩ := hf.place hj4
      have e6 : I (1 + 5) j = nI p := (ho j hj4).trans ep
      rw [if_neg (zz_nle (by omega) (by omega)), if_neg (zz_nle (by omega) (by omega)), if_neg (pl_m1 j (by omega)), room6 hj4 hp e6, roomOf8 hj4 hp ep, zb_s]
      by_cases q2 : nI (p % 8) = a
      · rw [if_pos q2]
        exact ⟨_, _, m - (j + 1), rfl, rfl, by omega, j + 1, _, by omega, rfl, rfl, rfl⟩
      · rw [if_neg q2]
        exact ⟨_, _, m - (j + 1), rfl, rfl, by omega, j + 1, _, by omega, rfl, rfl, rfl⟩) 1000 m (0, 0) (0, 0) ⟨0, 0, by omega, rfl, rfl, rfl⟩ (by omega)
  subst e3
  rw [e1, e2]
  exact ⟨_, rfl, rfl⟩
theorem stand_but {I J : zI} {m i r q : Nat} (hf : zWF (J 51)) (hm : m < 5) (e8 : J 51 12 = nI m) (e7 : I 1 8 = nI m) (hi : i < m) (hr : r < 8) (hq : q < 5) (hx : I (1 + 5) i = nI (8 * q + r)) (ho : ∀ k : Nat, k < 4 → k ≠ i → I (1 + 5) k = J 51 (52 + k)) : ∃ v : Int32, fX6_standingIn 1000 1 (nI r) I = some (v + 1) ∧ fX8_standing 1000 (nI r) (nI i) J = some v := by
  have e12 : ∀ t : Option ((Int32 × Int32) ⊕ Int32), zg 12 120 t = t := fun t => zg_k (i := 12) t (by decide)
  have n12 : zn 12 = 12 := rfl
  unfold fX6_standingIn fX8_standing
  obtain ⟨r, u, e1, e2, e3⟩ := zit_rel (g := gX6_standingIn_4 1 (nI r) I) (f := gX8_standing_5 (nI r) (nI i) J) (fun k s t => ∃ (j : Nat) (v : Int32), j ≤ m ∧ k = m - j ∧ s = (v + (if i < j then 1 else 0), nI j) ∧ t = (v, nI j)) (fun r u => r = u + 1) (by
    rintro k s t ⟨j, v, hj, rfl, rfl, rfl⟩
    unfold gX6_standingIn_4 gX8_standing_5
    simp only [e12, n12, e7, e8, zl_s, nI_1, Int32.add_zero]
    by_cases q0 : j = m
    · subst q0
      right
      rw [if_pos (Int32.le_refl _), if_pos (Int32.le_refl _), if_pos hi]
      exact ⟨_, _, rfl, rfl, rfl⟩
    · left
      have hj4 : j < 4 := by omega
      rw [if_neg (zz_nle (by omega) (by omega)), if_neg (zz_nle (by omega) (by omega))]
      by_cases qi : j = i
      · subst qi
        rw [if_pos rfl, room6 hj4 (by omega) hx, zb_s, show (8 * q + r) % 8 = r by omega, if_pos rfl, if_neg (by omega)]
        exact ⟨_, _, m - (j + 1), rfl, rfl, by omega, j + 1, v, by omega, rfl, by rw [if_pos (by omega), Int32.add_zero], rfl⟩
      · obtain ⟨p, hp, ep⟩ := hf.place hj4
        have e6 : I (1 + 5) j = nI p := (ho j hj4 qi).trans ep
        rw [if_neg (fun z => qi ((nI_eq (by omega) (by omega)).mp z)), room6 hj4 hp e6, roomOf8 hj4 hp ep, zb_s, zb_s]
        have ei : (if i < j then (1 : Int32) else 0) = if i < j + 1 then 1 else 0 := by
          by_cases z : i < j
          · rw [if_pos z, if_pos (by omega)]
          · rw [if_neg z, if_neg (by omega)]
        rw [ei]
        by_cases q2 : nI (p % 8) = nI r
        · rw [if_pos q2, if_pos q2]
          exact ⟨_, _, m - (j + 1), rfl, rfl, by omega, j + 1, v + 1, by omega, rfl, by rw [Int32.add_assoc, Int32.add_comm _ 1, ← Int32.add_assoc], rfl⟩
        · rw [if_neg q2, if_neg q2]
          exact ⟨_, _, m - (j + 1), rfl, rfl, by omega, j + 1, v, by omega, rfl, rfl, rfl⟩) 1000 m (0, 0) (0, 0) ⟨0, 0, by omega, rfl, by rw [if_neg (by omega)]; rfl, rfl⟩ (by omega)
  subst e3
  rw [e1, e2]
  exact ⟨_, rfl, rfl⟩
