/-! days: a World w and the row of the reference -/
theorem zcm_far0 : ∀ j : Nat, j < 60 → ¬ (zcm 0 j).1 = 7 := by decide +kernel
theorem zcm_farw {w : Nat} (j : Nat) (hj : j < 60) : ¬ (zcm w j).1 = w + 7 := by
  rw [zcm_w]
  show ¬ w + (zcm 0 j).1 = w + 7
  have := zcm_far0 j hj
  omega
theorem zcm_isw {w j k c s : Nat} (hj : j < 120) (hk : k < 120) (hc : zcm w k = (c, s)) (e1 : (zcm w j).1 = c) (e2 : (zcm w j).2 = s) : j = k := zcm_inj (w := w) hj hk (by rw [hc]; exact Prod.ext e1 e2)
theorem bk_relw {w : Nat} {I J I' J' : zI} {i t r f : Nat} {v B : Int32} (h : zRw w I J) (hB : zlt 13 B) (ht : t < 8) (hr : r < 8) (hf : J 51 (36 + t) = nI f)
    (hI : ∀ c s : Nat, I' c s = if c = w ∧ s = 12 then I w 12 + v else if c = w ∧ s = 11 then I w 11 + 1 else if c = w ∧ s = 13 then B else if c = w + 7 ∧ s = 0 then nI i else if c = w + 7 ∧ s = 1 then nI t else if c = w + 7 ∧ s = 2 then nI f else if c = w + 7 ∧ s = 3 then nI r else if c = w + 7 ∧ s = 4 then v else if c = w + 7 ∧ 5 ≤ s ∧ s < 60 then I (w + 7) (s - 5) else if c = w + 3 ∧ s = t then nI r else I c s)
    (hJ : ∀ c s : Nat, J' c s = if c = 51 ∧ s = 14 then J 51 14 + v else if c = 51 ∧ s = 13 then J 51 13 + 1 else if c = 51 ∧ s = 36 + t then nI r else if c = 51 ∧ s = 17 then B else if c = 51 ∧ s = 60 then nI i else if c = 51 ∧ s = 61 then nI t else if c = 51 ∧ s = 62 then nI f else if c = 51 ∧ s = 63 then nI r else if c = 51 ∧ s = 64 then v else if c = 51 ∧ 65 ≤ s ∧ s < 120 then J 51 (s - 5) else J c s) : zRw w I' J' := by
  refine ⟨fun j hj => ?_, ⟨fun j hj => ?_, fun k hk => ?_, fun a b ha hb => ?_⟩⟩
  · by_cases q14 : j = 14
    · subst q14
      show I' w 12 = J' 51 14
      rw [hI, hJ, if_pos ⟨rfl, rfl⟩, if_pos ⟨rfl, rfl⟩, h.met]
    by_cases q13 : j = 13
    · subst q13
      show I' w 11 = J' 51 13
      rw [hI, hJ, if_neg (by omega), if_pos ⟨rfl, rfl⟩, if_neg (by omega), if_pos ⟨rfl, rfl⟩, h.moves]
    by_cases q17 : j = 17
    · subst q17
      show I' w 13 = J' 51 17
      rw [hI, hJ, if_neg (by omega), if_neg (by omega), if_pos ⟨rfl, rfl⟩, if_neg (by omega), if_neg (by omega), if_neg (by omega), if_pos ⟨rfl, rfl⟩]
    by_cases q36 : j = 36 + t
    · subst q36
      unfold rW
      rw [zcm_room ht]
      show I' (w + 3) t = J' 51 (36 + t)
      rw [hI, hJ, if_neg (by omega), if_neg (by omega), if_neg (by omega), if_neg (by omega), if_neg (by omega), if_neg (by omega), if_neg (by omega), if_neg (by omega), if_neg (by omega), if_pos ⟨rfl, rfl⟩, if_neg (by omega), if_neg (by omega), if_pos ⟨rfl, rfl⟩]
    by_cases q60 : 60 ≤ j
    · obtain ⟨k, rfl⟩ : ∃ k, j = 60 + k := ⟨j - 60, by omega⟩
      unfold rW
      rw [zcm_book]
      show I' (w + 7) k = J' 51 (60 + k)
      have e5 : ∀ _ : 5 ≤ k, I (w + 7) (k - 5) = J 51 (60 + k - 5) := fun z => by
        rw [show I (w + 7) (k - 5) = _ from h.book (k := k - 5) (by omega), show 60 + (k - 5) = 60 + k - 5 by omega]
      by_cases k0 : k = 0
      · rw [hI, hJ, if_neg (by omega), if_neg (by omega), if_neg (by omega), if_pos (by omega), if_neg (by omega), if_neg (by omega), if_neg (by omega), if_neg (by omega), if_pos (by omega)]
      by_cases k1 : k = 1
      · rw [hI, hJ, if_neg (by omega), if_neg (by omega), if_neg (by omega), if_neg (by omega), if_pos (by omega), if_neg (by omega), if_neg (by omega), if_neg (by omega), if_neg (by omega), if_neg (by omega), if_pos (by omega)]
      by_cases k2 : k = 2
      · rw [hI, hJ, if_neg (by omega), if_neg (by omega), if_neg (by omega), if_neg (by omega), if_neg (by omega), if_pos (by omega), if_neg (by omega), if_neg (by omega), if_neg (by omega), if_neg (by omega), if_neg (by omega), if_neg (by omega), if_pos (by omega)]
      by_cases k3 : k = 3
      · rw [hI, hJ, if_neg (by omega), if_neg (by omega), if_neg (by omega), if_neg (by omega), if_neg (by omega), if_neg (by omega), if_pos (by omega), if_neg (by omega), if_neg (by omega), if_neg (by omega), if_neg (by omega), if_neg (by omega), if_neg (by omega), if_neg (by omega), if_pos (by omega)]
      by_cases k4 : k = 4
      · rw [hI, hJ, if_neg (by omega), if_neg (by omega), if_neg (by omega), if_neg (by omega), if_neg (by omega), if_neg (by omega), if_neg (by omega), if_pos (by omega), if_neg (by omega), if_neg (by omega), if_neg (by omega), if_neg (by omega), if_neg (by omega), if_neg (by omega), if_neg (by omega), if_neg (by omega), if_pos (by omega)]
      rw [hI, hJ, if_neg (by omega), if_neg (by omega), if_neg (by omega), if_neg (by omega), if_neg (by omega), if_neg (by omega), if_neg (by omega), if_neg (by omega), if_pos (by omega), if_neg (by omega), if_neg (by omega), if_neg (by omega), if_neg (by omega), if_neg (by omega), if_neg (by omega), if_neg (by omega), if_neg (by omega), if_neg (by omega), if_pos (by omega)]
      exact e5 (by omega)
    · have e := h.1 j hj
      unfold rW at e ⊢
      rw [hI, hJ]
      have f8 := zcm_farw (w := w) j (by omega)
      have z12 : ¬ ((zcm w j).1 = w ∧ (zcm w j).2 = 12) := fun q => q14 (zcm_isw hj (by omega) rfl q.1 q.2)
      have z11 : ¬ ((zcm w j).1 = w ∧ (zcm w j).2 = 11) := fun q => q13 (zcm_isw hj (by omega) rfl q.1 q.2)
      have z13 : ¬ ((zcm w j).1 = w ∧ (zcm w j).2 = 13) := fun q => q17 (zcm_isw hj (by omega) rfl q.1 q.2)
      have z4 : ¬ ((zcm w j).1 = w + 3 ∧ (zcm w j).2 = t) := fun q => q36 (zcm_isw hj (by omega) (zcm_room ht) q.1 q.2)
      rw [if_neg z12, if_neg z11, if_neg z13, if_neg (fun q => f8 q.1), if_neg (fun q => f8 q.1), if_neg (fun q => f8 q.1), if_neg (fun q => f8 q.1), if_neg (fun q => f8 q.1), if_neg (fun q => f8 q.1), if_neg z4]
      rw [if_neg (by omega), if_neg (by omega), if_neg (by omega), if_neg (by omega), if_neg (by omega), if_neg (by omega), if_neg (by omega), if_neg (by omega), if_neg (by omega), if_neg (by omega)]
      exact e
  · rw [hJ]
    by_cases q36 : j = 36 + t
    · subst q36
      rw [if_neg (by omega), if_neg (by omega), if_pos ⟨rfl, rfl⟩, zok_room ht]
      exact ⟨r, hr, rfl⟩
    by_cases q17 : j = 17
    · subst q17
      rw [if_neg (by omega), if_neg (by omega), if_neg (by omega), if_pos ⟨rfl, rfl⟩]
      show zlt 13 _
      exact hB
    by_cases q : j = 13 ∨ j = 14 ∨ 60 ≤ j
    · exact zok_free (by omega)
    · rw [if_neg (by omega), if_neg (by omega), if_neg (by omega), if_neg (by omega), if_neg (by omega), if_neg (by omega), if_neg (by omega), if_neg (by omega), if_neg (by omega), if_neg (by omega)]
      exact h.2.1 j hj
  · have e : ∀ j : Nat, j < 36 → j ≠ 13 → j ≠ 14 → j ≠ 17 → J' 51 j = J 51 j := by
      intro j hj h1 h2 h3
      rw [hJ, if_neg (by omega), if_neg (by omega), if_neg (by omega), if_neg (by omega), if_neg (by omega), if_neg (by omega), if_neg (by omega), if_neg (by omega), if_neg (by omega), if_neg (by omega)]
    rw [e (18 + k) (by omega) (by omega) (by omega) (by omega), e 11 (by omega) (by omega) (by omega) (by omega)]
    exact h.2.2.1 k hk
  · have e : ∀ j : Nat, j < 8 → J' 51 j = J 51 j := by
      intro j hj
      rw [hJ, if_neg (by omega), if_neg (by omega), if_neg (by omega), if_neg (by omega), if_neg (by omega), if_neg (by omega), if_neg (by omega), if_neg (by omega), if_neg (by omega), if_neg (by omega)]
    rw [e a ha, e b hb]
    exact h.2.2.2 a b ha hb
theorem stand_allw {w : Nat} {I J : zI} {m : Nat} (hf : zWF (J 51)) (hm : m < 5) (e8 : J 51 12 = nI m) (e7 : I w 8 = nI m) (ho : ∀ k : Nat, k < 4 → I (w + 5) k = J 51 (52 + k)) (a : Int32) : ∃ v : Int32, fX6_standingIn 1000 w a I = some v ∧ fX8_standing 1000 a (-1) J = some v := by
  have e12 : ∀ t : Option ((Int32 × Int32) ⊕ Int32), zg 12 120 t = t := fun t => zg_k (i := 12) t (by decide)
  have n12 : zn 12 = 12 := rfl
  unfold fX6_standingIn fX8_standing
  obtain ⟨r, u, e1, e2, e3⟩ := zit_rel (g := gX6_standingIn_4 w a I) (f := gX8_standing_5 a (-1) J) (fun k s t => ∃ (j : Nat) (v : Int32), j ≤ m ∧ k = m - j ∧ s = (v, nI j) ∧ t = (v, nI j)) (fun r u => r = u) (by
    rintro k s t ⟨j, v, hj, rfl, rfl, rfl⟩
    unfold gX6_standingIn_4 gX8_standing_5
    simp only [e12, n12, e7, e8, zl_s, nI_1, Int32.add_zero]
    by_cases q : j = m
    · subst q
      right
      rw [if_pos (Int32.le_refl _), if_pos (Int32.le_refl _)]
      exact ⟨v, v, rfl, rfl, rfl⟩
    · left
      have hj4 : j < 4 := by omega
      obtain ⟨p, hp, ep⟩ := hf.place hj4
      have e6 : I (w + 5) j = nI p := (ho j hj4).trans ep
      rw [if_neg (zz_nle (by omega) (by omega)), if_neg (zz_nle (by omega) (by omega)), if_neg (pl_m1 j (by omega)), room6 hj4 hp e6, roomOf8 hj4 hp ep, zb_s]
      by_cases q2 : nI (p % 8) = a
      · rw [if_pos q2]
        exact ⟨_, _, m - (j + 1), rfl, rfl, by omega, j + 1, _, by omega, rfl, rfl, rfl⟩
      · rw [if_neg q2]
        exact ⟨_, _, m - (j + 1), rfl, rfl, by omega, j + 1, _, by omega, rfl, rfl, rfl⟩) 1000 m (0, 0) (0, 0) ⟨0, 0, by omega, rfl, rfl, rfl⟩ (by omega)
  subst e3
  rw [e1, e2]
  exact ⟨_, rfl, rfl⟩
theorem enter_plw {w : Nat} {I J : zI} {t c s b : Nat} {a tt f r rr v : Int32} (hIJ : ∀ c s : Nat, I c s = J c s) : (if c = w ∧ s = 12 then zup I (w + 3) t rr w 12 + v else if c = w ∧ s = 11 then zup I (w + 3) t rr w 11 + 1 else if c = w ∧ s = 13 then nI (if b < 12 then b + 1 else 12) else if c = w + 7 ∧ s = 0 then a else if c = w + 7 ∧ s = 1 then tt else if c = w + 7 ∧ s = 2 then f else if c = w + 7 ∧ s = 3 then r else if c = w + 7 ∧ s = 4 then v else if c = w + 7 ∧ 5 ≤ s ∧ s < 60 then zup I (w + 3) t rr (w + 7) (s - 5) else zup I (w + 3) t rr c s) = (if c = w ∧ s = 12 then J w 12 + v else if c = w ∧ s = 11 then J w 11 + 1 else if c = w ∧ s = 13 then nI (if b < 12 then b + 1 else 12) else if c = w + 7 ∧ s = 0 then a else if c = w + 7 ∧ s = 1 then tt else if c = w + 7 ∧ s = 2 then f else if c = w + 7 ∧ s = 3 then r else if c = w + 7 ∧ s = 4 then v else if c = w + 7 ∧ 5 ≤ s ∧ s < 60 then J (w + 7) (s - 5) else if c = w + 3 ∧ s = t then rr else J c s) := by
  rw [zup_r (a := w) (b := 12) (by omega), zup_r (a := w) (b := 11) (by omega), zup_r (a := w + 7) (b := s - 5) (by omega), zup_at, hIJ, hIJ, hIJ, hIJ]
theorem canReach6 {w p s t i : Nat} {I J : zI} (h : zRw w I J) (hi : i < 4) (ht : t < 8) (hp : p < 40) (ep : J 51 (52 + i) = nI p) (hs8 : s < 8) (hs : J 51 8 = nI s) : fX6_canReach w (nI i) (nI t) I = some (zp (p % 8 = s ∧ p / 8 < 4 ∧ ¬ J 51 (56 + i) < zheft (J 51 (28 + t)) (J 51 (44 + t)) (nI (p / 8 + 1)))) := by
  have e6 : I (w + 5) i = nI p := (h.place hi).trans ep
  unfold fX6_canReach
  rw [level6 hi hp e6, room6 hi hp e6, zb_s, zb_s, h.small, hs, nI_1, weight6 h ht, zb_s, zg_k _ hi, zn_k (show i < 2 ^ 31 by omega), h.strength hi]
  by_cases q : p % 8 = s
  · rw [if_pos (show nI (p % 8) = nI s by rw [q])]
    by_cases q2 : p / 8 < 4
    · rw [if_neg (show ¬ 4 ≤ nI (p / 8) from zz_nle (b := 4) (by omega) q2)]
      by_cases q3 : J 51 (56 + i) < zheft (J 51 (28 + t)) (J 51 (44 + t)) (nI (p / 8 + 1))
      · rw [if_pos q3, zp_f (fun z => z.2.2 q3)]
      · rw [if_neg q3, zp_t ⟨q, q2, q3⟩]
    · rw [if_pos (show 4 ≤ nI (p / 8) by rw [show p / 8 = 4 by omega]; decide), zp_f (fun z => q2 z.2.1)]
  · rw [if_neg (show ¬ nI (p % 8) = nI s from fun z => q ((nI_eq (by omega) (by omega)).mp z)), zp_f (fun z => q z.1)]
theorem canReach8 {p s t i f r : Nat} {J : zI} (hi : i < 4) (ht : t < 8) (hp : p < 40) (ep : J 51 (52 + i) = nI p) (hs8 : s < 8) (hs : J 51 8 = nI s) (hf : f < 8) (ef : J 51 (36 + t) = nI f) (hr : r < 8) : fX8_canReach (nI i) (nI t) (nI r) J = some (zp (p % 8 = s ∧ p / 8 < 4 ∧ ¬ f = r ∧ ¬ J 51 (56 + i) < zheft (J 51 (28 + t)) (J 51 (44 + t)) (nI (p / 8 + 1)))) := by
  unfold fX8_canReach
  rw [before8 hi hp ep hs hs8, zb_s, level8 hi hp ep, zb_s, nI_1, weighs8 ht, zb_s]
  rw [show (36 : Int32) + nI t = nI (36 + t) from nI_add 36 t, show (56 : Int32) + nI i = nI (56 + i) from nI_add 56 i, zg_k _ (show 36 + t < 120 by omega), zg_k _ (show 56 + i < 120 by omega), zn_k (show 36 + t < 2 ^ 31 by omega), zn_k (show 56 + i < 2 ^ 31 by omega), ef, zif]
  by_cases q : p % 8 = s ∧ p / 8 < 4
  · rw [zite_t q]
    by_cases qf : f = r
    · rw [if_pos (show nI f = nI r by rw [qf]), zp_f (fun z => z.2.2.1 qf)]
    · rw [if_neg (show ¬ nI f = nI r from fun z => qf ((nI_eq (by omega) (by omega)).mp z))]
      by_cases q3 : J 51 (56 + i) < zheft (J 51 (28 + t)) (J 51 (44 + t)) (nI (p / 8 + 1))
      · rw [if_pos q3, zp_f (fun z => z.2.2.2 q3)]
      · rw [if_neg q3, zp_t ⟨q.1, q.2, qf, q3⟩]
  · rw [zite_f q, zp_f (fun z => q ⟨z.1, z.2.1⟩)]
theorem reach_both {w : Nat} {I J : zI} (h : zRw w I J) {i t r : Nat} (hi : i < 4) (ht : t < 8) (hr : r < 8) : ∃ (v : Int32) (I' J' : zI), fX6_reachOver 1000 w (nI i) (nI t) (nI r) I = some (v, I') ∧ fX8_standing 1000 (nI r) (-1) J = some v ∧ fX8_brings 1000 (nI i) (nI t) (nI r) v J = some (v, J') ∧ zRw w I' J' ∧ (∀ c, ¬ (w ≤ c ∧ c ≤ w + 8) → I' c = I c) ∧ (∀ c, c ≠ 51 → J' c = J c) := by
  obtain ⟨m, hm, e8⟩ := h.2.folk
  have e7 : I w 8 = nI m := h.people.trans e8
  obtain ⟨bk, hbk, ebk⟩ := h.2.booked
  obtain ⟨f, hf, ef⟩ := h.2.room ht
  have f4 : I (w + 3) t = nI f := (h.room ht).trans ef
  obtain ⟨v', w1, v2⟩ := stand_allw (w := w) (I := zup I (w + 3) t (nI r)) h.2 hm e8 ((zup_r (by omega)).trans e7) (fun k hk => (zup_r (by omega)).trans (h.place hk)) (nI r)
  obtain ⟨I', E1, E2⟩ := enter6 (w := w) (I := zup I (w + 3) t (nI r)) (b := bk) ((zup_r (by omega)).trans (h.booked.trans ebk)) hbk (nI i) (nI t) (nI f) (nI r) v'
  obtain ⟨J', F1, F2⟩ := brings8 (J := J) ebk hbk ht (nI i) (nI r) v'
  have hz := bk_relw (w := w) (I := I) (J := J) (I' := I') (J' := J') (i := i) (B := nI (if bk < 12 then bk + 1 else 12)) h ⟨_, by split <;> omega, rfl⟩ ht hr ef (fun c s => by rw [E2 c s, enter_plw (I := I) (J := I) (fun _ _ => rfl)]) (fun c s => by rw [F2 c s, ef])
  refine ⟨v', I', J', ?_, v2, F1, hz, fun c hc => funext fun s => ?_, fun c hc => funext fun s => ?_⟩
  · unfold fX6_reachOver
    simp only [zg_k _ ht, zn_k (show t < 2 ^ 31 by omega), zl_s, f4, w1, zb_s, E1]
  · rw [E2, if_neg (by omega), if_neg (by omega), if_neg (by omega), if_neg (by omega), if_neg (by omega), if_neg (by omega), if_neg (by omega), if_neg (by omega), if_neg (by omega), zup_r (by omega)]
  · rw [F2, if_neg (by omega), if_neg (by omega), if_neg (by omega), if_neg (by omega), if_neg (by omega), if_neg (by omega), if_neg (by omega), if_neg (by omega), if_neg (by omega), if_neg (by omega)]
/-- both have become heaps that hold the same row -/
def zDy (w : Nat) (I J I' J' : zI) : Prop := zRw w I' J' ∧ (∀ c, ¬ (w ≤ c ∧ c ≤ w + 8) → I' c = I c) ∧ (∀ c, c ≠ 51 → J' c = J c)
theorem zDy.rf {w : Nat} {I J : zI} (h : zRw w I J) : zDy w I J I J := ⟨h, fun _ _ => rfl, fun _ _ => rfl⟩
theorem zDy.tr {w : Nat} {I J I1 J1 I2 J2 : zI} (h : zDy w I J I1 J1) (g : zDy w I1 J1 I2 J2) : zDy w I J I2 J2 := ⟨g.1, fun c hc => (g.2.1 c hc).trans (h.2.1 c hc), fun c hc => (g.2.2 c hc).trans (h.2.2 c hc)⟩
theorem reach_if {w : Nat} {I J : zI} (h : zRw w I J) {i t r : Nat} (hi : i < 4) (ht : t < 8) (hr : r < 8) : ∃ I' J', (zb (fX6_canReach w (nI i) (nI t) I) fun o37 => if o37 = 0 then some I else zg (nI t) 8 (if I (w + 3) (zn (nI t)) = nI r then some I else zb (fX6_reachOver 1000 w (nI i) (nI t) (nI r) I) fun o40 => some o40.2)) = some I' ∧ (zb (fX8_canReach (nI i) (nI t) (nI r) J) fun o34 => if o34 = 0 then some J else zb (fX8_standing 1000 (nI r) (-1) J) fun o36 => zb (fX8_brings 1000 (nI i) (nI t) (nI r) o36 J) fun o39 => some o39.2) = some J' ∧ zDy w I J I' J' := by
  obtain ⟨p, hp, ep⟩ := h.2.place hi
  obtain ⟨s, hs8, hs⟩ := h.2.small
  obtain ⟨f, hf, ef⟩ := h.2.room ht
  rw [canReach6 h hi ht hp ep hs8 hs, canReach8 hi ht hp ep hs8 hs hf ef hr, zb_s, zb_s, zif, zif, zg_k _ ht, zn_k (show t < 2 ^ 31 by omega), h.room ht, ef]
  by_cases q : p % 8 = s ∧ p / 8 < 4 ∧ ¬ J 51 (56 + i) < zheft (J 51 (28 + t)) (J 51 (44 + t)) (nI (p / 8 + 1))
  · rw [zite_t q]
    by_cases qf : f = r
    · rw [if_pos (show nI f = nI r by rw [qf]), zite_f (fun z => z.2.2.1 qf)]
      exact ⟨_, _, rfl, rfl, zDy.rf h⟩
    · rw [if_neg (show ¬ nI f = nI r from fun z => qf ((nI_eq (by omega) (by omega)).mp z)), zite_t ⟨q.1, q.2.1, qf, q.2.2⟩]
      obtain ⟨v, I', J', a1, a2, a3, a4, a5, a6⟩ := reach_both h hi ht hr
      rw [a1, a2, zb_s, zb_s, a3, zb_s]
      exact ⟨_, _, rfl, rfl, a4, a5, a6⟩
  · rw [zite_f q, zite_f (fun z => q ⟨z.1, z.2.1, z.2.2.2⟩)]
    exact ⟨_, _, rfl, rfl, zDy.rf h⟩
theorem draw6 (w : Nat) (I : zI) : fX6_draw w I = some (zushr (I w 16 * 1103515245 + 12345) 8, zup I w 16 (I w 16 * 1103515245 + 12345)) := by
  unfold fX6_draw
  rw [zl_s, zup_s]
theorem draw8 (J : zI) : fX8_draw J = some (zushr (J 51 16 * 1103515245 + 12345) 8, zup J 51 16 (J 51 16 * 1103515245 + 12345)) := by
  have g : ∀ t : Option (Int32 × zI), zg 16 120 t = t := fun t => zg_k (i := 16) t (by decide)
  have n16 : zn 16 = 16 := rfl
  unfold fX8_draw
  simp only [g, n16, zl_s, zup_s]
theorem ush8 (v : Int32) : ∃ x : Nat, x < 16777216 ∧ zushr v 8 = nI x := by
  have hv := v.toBitVec.isLt
  refine ⟨v.toBitVec.toNat / 256, by omega, Int32.toBitVec_inj.mp (BitVec.eq_of_toNat_eq ?_)⟩
  rw [pk_tn (by omega)]
  exact pk_ushr v 8 8 (by decide)
theorem zrem_k {x m : Nat} (hx : x < 2 ^ 31) (h0 : 0 < m) (hm : m < 2 ^ 31) : zrem (nI x) (nI m) = nI (x % m) := pk_rem hx h0 hm
theorem draw_rel {w : Nat} {I J : zI} (h : zRw w I J) (z : Int32) : zDy w I J (zup I w 16 z) (zup J 51 16 z) := ⟨zRw_up h (j := 16) (by omega) rfl (zok_free (by omega)) (by omega), fun c hc => zup_ne (by omega), fun c hc => zup_ne hc⟩
theorem draw_both {w : Nat} {I J : zI} (h : zRw w I J) : ∃ (x : Nat) (X Y : zI), x < 16777216 ∧ fX6_draw w I = some (nI x, X) ∧ fX8_draw J = some (nI x, Y) ∧ zDy w I J X Y ∧ (∀ s : Nat, s ≠ 16 → X w s = I w s) ∧ (∀ s : Nat, s ≠ 16 → Y 51 s = J 51 s) := by
  rw [draw6, draw8, h.z]
  obtain ⟨z1, hz⟩ : ∃ z, z = J 51 16 * 1103515245 + 12345 := ⟨_, rfl⟩
  rw [← hz]
  obtain ⟨x1, hx1, u1⟩ := ush8 z1
  rw [u1]
  exact ⟨x1, _, _, hx1, rfl, rfl, draw_rel h z1, fun s hs => zup_r (by omega), fun s hs => zup_r (by omega)⟩
def tB6 (n : Nat) (w : Nat) (a1 : Int32) (x9 : zI) : Option (zI) :=
  if (x9 w 4) ≤ 0 then
    some x9
  else
  zb (fX6_roomOf w a1 x9) fun o17 =>
  if o17 = (x9 w 1) then
    zb (fX6_levelOf w a1 x9) fun o19 =>
    if o19 < 4 then
      zb (fX6_draw w x9) fun o22 =>
      zd (o22.2 w 4) (
      zl (zrem o22.1 (o22.2 w 4)) fun v23 =>
      zb (fX6_draw w o22.2) fun o26 =>
      zl (zrem o26.1 8) fun v27 =>
      zb (fX6_draw w o26.2) fun o30 =>
      zb (
        if (o30.2 w 3) ≤ (zrem o30.1 100) then
          some v27
        else
        zl (zrem (v27 + 1) 8) fun v35 =>
        some v35) fun x31 : Int32 =>
      zb (fX6_canReach w a1 v23 o30.2) fun o37 =>
      if o37 = 0 then
        some o30.2
      else
      zg v23 8 (
      if (o30.2 (w + 3) (zn v23)) = x31 then
        some o30.2
      else
      zb (fX6_reachOver n w a1 v23 x31 o30.2) fun o40 =>
      some o40.2))
    else
    some x9
  else
  some x9
def tB8 (n : Nat) (a1 : Int32) (x7 : zI) : Option (zI) :=
  zg 11 120 (
  if (x7 51 (zn 11)) = 0 then
    some x7
  else
  zb (fX8_isBefore a1 x7) fun o17 =>
  if o17 = 0 then
    some x7
  else
  zb (fX8_draw x7) fun o20 =>
  zg 11 120 (
  zd (o20.2 51 (zn 11)) (
  zl (zrem o20.1 (o20.2 51 (zn 11))) fun v21 =>
  zb (fX8_draw o20.2) fun o24 =>
  zl (zrem o24.1 8) fun v25 =>
  zb (fX8_draw o24.2) fun o28 =>
  zg 10 120 (
  zb (
    if (o28.2 51 (zn 10)) ≤ (zrem o28.1 100) then
      some v25
    else
    some (zrem (v25 + 1) 8)) fun x29 : Int32 =>
  zb (fX8_canReach a1 v21 x29 o28.2) fun o34 =>
  if o34 = 0 then
    some o28.2
  else
  zb (fX8_standing n x29 (-1) o28.2) fun o36 =>
  zb (fX8_brings n a1 v21 x29 o36 o28.2) fun o39 =>
  some o39.2))))
theorem tB_rel {w : Nat} {I J : zI} (h : zRw w I J) {i : Nat} (hi : i < 4) : ∃ I' J', tB6 1000 w (nI i) I = some I' ∧ tB8 1000 (nI i) J = some J' ∧ zDy w I J I' J' := by
  obtain ⟨m, hm, t8⟩ := h.2.many
  have t7 : I w 4 = nI m := h.things.trans t8
  obtain ⟨p, hp, ep⟩ := h.2.place hi
  have e6 : I (w + 5) i = nI p := (h.place hi).trans ep
  obtain ⟨s, hs8, hs⟩ := h.2.small
  have g11 : ∀ t : Option zI, zg 11 120 t = t := fun t => zg_k (i := 11) t (by decide)
  have g10 : ∀ t : Option zI, zg 10 120 t = t := fun t => zg_k (i := 10) t (by decide)
  have n11 : zn 11 = 11 := rfl
  have n10 : zn 10 = 10 := rfl
  unfold tB6 tB8
  rw [g11, n11, t7, t8]
  by_cases q0 : m = 0
  · subst q0
    rw [if_pos (show nI 0 ≤ 0 by decide), if_pos (show nI 0 = 0 from rfl)]
    exact ⟨_, _, rfl, rfl, zDy.rf h⟩
  rw [if_neg (nI_nle (by omega) (by omega)), if_neg (nI_ne0 (by omega) (by omega)), room6 hi hp e6, level6 hi hp e6, before8 hi hp ep hs hs8, zb_s, zb_s, zb_s, zif, h.small, hs]
  by_cases q : p % 8 = s
  · rw [if_pos (show nI (p % 8) = nI s by rw [q])]
    by_cases q2 : p / 8 < 4
    · rw [if_pos (show nI (p / 8) < 4 from nI_lt (b := 4) q2 (by omega)), zite_t ⟨q, q2⟩]
      obtain ⟨x1, X1, Y1, hx1, a1, b1, d1, c1, k1⟩ := draw_both h
      obtain ⟨x2, X2, Y2, hx2, a2, b2, d2, c2, k2⟩ := draw_both d1.1
      obtain ⟨x3, X, Y, hx3, a3, b3, d3z, c3, k3⟩ := draw_both d2.1
      have d3 := (d1.tr d2).tr d3z
      have zd1 : ∀ t : Option zI, zd (nI m) t = t := fun t => by unfold zd; rw [if_neg (nI_ne0 (by omega) (by omega))]
      rw [a1, b1, zb_s, zb_s]
      dsimp only
      rw [g11, show X1 w 4 = nI m from (c1 4 (by omega)).trans t7, show Y1 51 11 = nI m from (k1 11 (by omega)).trans t8, zd1, zd1, zl_s, zl_s, a2, b2, zb_s, zb_s]
      dsimp only
      simp only [zl_s, a3, b3, zb_s, g10, n10]
      have e3 : X w 3 = Y 51 10 := d3.1.slip
      rw [zrem_k (by omega) (show 0 < m by omega) (by omega), show zrem (nI x2) 8 = nI (x2 % 8) from zrem_k (m := 8) (by omega) (by omega) (by omega)]
      rw [nI_1, show zrem (nI (x2 % 8 + 1)) 8 = nI ((x2 % 8 + 1) % 8) from zrem_k (m := 8) (by omega) (by omega) (by omega)]
      have hx : x1 % m < 8 := by
        have := Nat.mod_lt x1 (show 0 < m by omega)
        omega
      by_cases q3 : Y 51 10 ≤ zrem (nI x3) 100
      · rw [if_pos (show X w 3 ≤ zrem (nI x3) 100 by rw [e3]; exact q3), if_pos q3, zb_s, zb_s]
        obtain ⟨I', J', a1, a2, a3⟩ := reach_if d3.1 hi hx (show x2 % 8 < 8 by omega)
        exact ⟨I', J', a1, a2, d3.tr a3⟩
      · rw [if_neg (show ¬ X w 3 ≤ zrem (nI x3) 100 by rw [e3]; exact q3), if_neg q3, zb_s, zb_s]
        obtain ⟨I', J', a1, a2, a3⟩ := reach_if d3.1 hi hx (show (x2 % 8 + 1) % 8 < 8 by omega)
        exact ⟨I', J', a1, a2, d3.tr a3⟩
    · rw [if_neg (show ¬ nI (p / 8) < 4 from nI_nlt (b := 4) (by omega) (by omega)), zite_f (fun z => q2 z.2)]
      exact ⟨_, _, rfl, rfl, zDy.rf h⟩
  · rw [if_neg (show ¬ nI (p % 8) = nI s from fun z => q ((nI_eq (by omega) (by omega)).mp z)), zite_f (fun z => q z.1)]
    exact ⟨_, _, rfl, rfl, zDy.rf h⟩
theorem move_rel {w : Nat} {I J : zI} (h : zRw w I J) {i q : Nat} (hi : i < 4) (hq : q < 40) : zDy w I J (zup I (w + 5) i (nI q)) (zup J 51 (52 + i) (nI q)) :=
  ⟨zRw_up h (by omega) (zcm_place hi) (by rw [zok_place hi]; exact ⟨q, hq, rfl⟩) (by omega), fun c hc => zup_ne (by omega), fun c hc => zup_ne hc⟩
theorem dayW {w : Nat} {I J : zI} (h : zRw w I J) {i : Nat} (hi : i < 4) : ∃ I' J', fX6_actByDraws 1000 w (nI i) I = some I' ∧ fX8_dayOf 1000 (nI i) J = some J' ∧ zDy w I J I' J' := by
  obtain ⟨x1, X, Y, hx1, a1, b1, d1, c1, k1⟩ := draw_both h
  obtain ⟨p, hp, ep⟩ := d1.1.2.place hi
  have e6 : X (w + 5) i = nI p := (d1.1.place hi).trans ep
  have ez : zrem (nI x1) 8 = nI (x1 % 8) := zrem_k (m := 8) (by omega) (by omega) (by omega)
  have E6 : fX6_actByDraws 1000 w (nI i) I = zb (fX6_draw w I) fun o3 => zl (zrem o3.1 8) fun v4 => zb (fX6_roomOf w (nI i) o3.2) fun o6 => zb (fX6_isOpen w o6 v4 o3.2) fun o8 => zb (if o8 = 0 then some o3.2 else zb (fX6_moveTo w (nI i) v4 o3.2) fun o15 => some o15) (tB6 1000 w (nI i)) := rfl
  have E8 : fX8_dayOf 1000 (nI i) J = zb (fX8_draw J) fun o3 => zl (zrem o3.1 8) fun v4 => zb (fX8_canWalk (nI i) v4 o3.2) fun o6 => zb (if o6 = 0 then some o3.2 else zb (fX8_levelOf (nI i) o3.2) fun o12 => zb (fX8_goes (nI i) o12 v4 o3.2) fun o15 => some o15) (tB8 1000 (nI i)) := rfl
  rw [E6, E8, a1, b1, zb_s, zb_s]
  dsimp only
  unfold fX8_canWalk
  rw [zl_s, zl_s, ez, room6 hi hp e6, roomOf8 hi hp ep, zb_s, zb_s, isOpen6 d1.1 (show p % 8 < 8 by omega), isOpen8 (J := Y) (show p % 8 < 8 by omega), zb_s, zb_s, zgb_p, zb_s, zif, zif, move6 hi hp e6, level8 hi hp ep, zb_s, zb_s, goes8 hi, zb_s]
  by_cases q : zshr (Y 51 (p % 8)) (nI (x1 % 8)) &&& 1 = 1
  · rw [zite_t q, zite_t q, zb_s, zb_s]
    have d2 := d1.tr (move_rel d1.1 hi (q := 8 * (p / 8) + x1 % 8) (by omega))
    obtain ⟨I', J', a1, a2, a3⟩ := tB_rel d2.1 hi
    exact ⟨I', J', a1, a2, d2.tr a3⟩
  · rw [zite_f q, zite_f q, zb_s, zb_s]
    obtain ⟨I', J', a1, a2, a3⟩ := tB_rel d1.1 hi
    exact ⟨I', J', a1, a2, d1.tr a3⟩
