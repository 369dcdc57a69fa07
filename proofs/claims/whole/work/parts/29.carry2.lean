/-! carrying and reaching -/
theorem enter_pl {I J : zI} {t c s b : Nat} {a tt f r rr v : Int32} (hIJ : ∀ c s : Nat, I c s = J c s) : (if c = 1 ∧ s = 12 then zup I (1 + 3) t rr 1 12 + v else if c = 1 ∧ s = 11 then zup I (1 + 3) t rr 1 11 + 1 else if c = 1 ∧ s = 13 then nI (if b < 12 then b + 1 else 12) else if c = 1 + 7 ∧ s = 0 then a else if c = 1 + 7 ∧ s = 1 then tt else if c = 1 + 7 ∧ s = 2 then f else if c = 1 + 7 ∧ s = 3 then r else if c = 1 + 7 ∧ s = 4 then v else if c = 1 + 7 ∧ 5 ≤ s ∧ s < 60 then zup I (1 + 3) t rr (1 + 7) (s - 5) else zup I (1 + 3) t rr c s) = (if c = 1 ∧ s = 12 then J 1 12 + v else if c = 1 ∧ s = 11 then J 1 11 + 1 else if c = 1 ∧ s = 13 then nI (if b < 12 then b + 1 else 12) else if c = 8 ∧ s = 0 then a else if c = 8 ∧ s = 1 then tt else if c = 8 ∧ s = 2 then f else if c = 8 ∧ s = 3 then r else if c = 8 ∧ s = 4 then v else if c = 8 ∧ 5 ≤ s ∧ s < 60 then J 8 (s - 5) else if c = 4 ∧ s = t then rr else J c s) := by
  rw [zup_r (a := 1) (b := 12) (by omega), zup_r (a := 1) (b := 11) (by omega), zup_r (a := 1 + 7) (b := s - 5) (by omega), zup_at, hIJ, hIJ, hIJ, hIJ]
theorem zsub1 (v : Int32) : v + 1 - 1 = v := Int32.add_sub_cancel v 1
theorem q_reach (a b c : Int32) (I J : zI) (h : zRel I J) : ∃ r I' J', fX7_reach 1000 a b c I = some (r, I') ∧ fX8_reach 1000 a b c J = some (r, J') ∧ zRel I' J' ∧ zO7 I I' ∧ zO8 J J' := by
  obtain ⟨m, hm, e8, e7⟩ := h.folk
  obtain ⟨mt, hmt, t8, t7⟩ := h.many
  obtain ⟨s, hs8, hs⟩ := h.wf.small
  obtain ⟨bk, hbk, ebk⟩ := h.wf.booked
  unfold fX7_reach fX8_reach fX6_canReach fX8_canReach fX6_reachOver
  simp only [one7 _ e7 hm, one8 _ e8 hm, thing7 _ t7 hmt, thing8 _ t8 hmt, room7, room8, zb_s, zif]
  by_cases ha : ¬ zlt m a
  · simp only [zite_f ha]; exact fin_leaf h 0
  replace ha := Classical.not_not.mp ha
  simp only [zite_t ha]
  by_cases hb : ¬ zlt mt b
  · simp only [zite_f hb]; exact fin_leaf h 0
  replace hb := Classical.not_not.mp hb
  simp only [zite_t hb]
  by_cases hc : ¬ zlt 8 c
  · simp only [zite_f hc]; exact fin_leaf h 0
  replace hc := Classical.not_not.mp hc
  simp only [zite_t hc]
  obtain ⟨i, hi, rfl⟩ := ha
  obtain ⟨t, ht, rfl⟩ := hb
  obtain ⟨r, hr, rfl⟩ := hc
  have hi4 : i < 4 := by omega
  have ht8 : t < 8 := by omega
  obtain ⟨p, hp, ep⟩ := h.wf.place hi4
  have e6 : I (1 + 5) i = nI p := (h.1.place hi4).trans ep
  obtain ⟨f, hf, ef⟩ := h.wf.room ht8
  have f4 : I 4 t = nI f := (h.1.room ht8).trans ef
  rw [room6 hi4 hp e6, level6 hi4 hp e6, level8 hi4 hp ep, before8 hi4 hp ep hs hs8]
  simp only [zb_s, h.1.small, hs, zif, nI_1, weight6 h.1 ht8, weighs8 ht8, show (36 : Int32) + nI t = nI (36 + t) from nI_add 36 t, show (56 : Int32) + nI i = nI (56 + i) from nI_add 56 i, zg_k _ ht8, zg_k _ hi4, zg_k _ (show 36 + t < 120 by omega), zg_k _ (show 56 + i < 120 by omega), zn_k (show t < 2 ^ 31 by omega), zn_k (show i < 2 ^ 31 by omega), zn_k (show 36 + t < 2 ^ 31 by omega), zn_k (show 56 + i < 2 ^ 31 by omega), f4, ef, zl_s, show I (1 + 6) i = _ from h.1.strength hi4, show I (1 + 3) t = nI f from f4]
  by_cases q : p % 8 = s
  · rw [if_pos (show nI (p % 8) = nI s by rw [q])]
    by_cases q2 : p / 8 < 4
    · rw [if_neg (show ¬ 4 ≤ nI (p / 8) from zz_nle (b := 4) (by omega) q2), zite_t ⟨q, q2⟩]
      by_cases qf : nI f = nI r
      · rw [if_pos qf, if_pos qf, zb_s, if_pos rfl]
        by_cases q3 : J 51 (56 + i) < zheft (J 51 (28 + t)) (J 51 (44 + t)) (nI (p / 8 + 1))
        · rw [if_pos q3, zb_s, if_pos rfl]; exact fin_leaf h 4
        · rw [if_neg q3, zb_s, if_neg (by decide)]; exact fin_leaf h 4
      · rw [if_neg qf, if_neg qf]
        by_cases q3 : J 51 (56 + i) < zheft (J 51 (28 + t)) (J 51 (44 + t)) (nI (p / 8 + 1))
        · rw [if_pos q3, zb_s, if_pos rfl, zb_s, if_pos rfl]; exact fin_leaf h 4
        · rw [if_neg q3, zb_s, if_neg (by decide), zb_s, if_neg (by decide)]
          obtain ⟨v', w1, v2⟩ := stand_all (I := zup I (1 + 3) t (nI r)) h.wf hm e8 ((zup_r (by omega)).trans e7) (fun k hk => (zup_r (by omega)).trans (h.1.place hk)) (nI r)
          obtain ⟨I', E1, E2⟩ := enter6 (w := 1) (I := zup I (1 + 3) t (nI r)) (b := bk) ((zup_r (by omega)).trans (h.1.booked.trans ebk)) hbk (nI i) (nI t) (nI f) (nI r) v'
          obtain ⟨J', F1, F2⟩ := brings8 (J := J) ebk hbk ht8 (nI i) (nI r) v'
          rw [w1, v2, zb_s, zb_s, E1, F1, zb_s, zb_s]
          have hz := bk_rel (I := I) (J := J) (I' := I') (J' := J') (i := i) (B := nI (if bk < 12 then bk + 1 else 12)) h.1 ⟨_, by split <;> omega, rfl⟩ ht8 hr ef (fun c s => by rw [E2 c s, enter_pl (I := I) (J := I) (fun _ _ => rfl)]) (fun c s => by rw [F2 c s, ef])
          refine ⟨_, _, _, rfl, rfl, zRel_w h hz (fun c hc => funext fun s => ?_) (fun c hc => funext fun s => ?_)⟩
          · show I' c s = I c s
            rw [E2, if_neg (by omega), if_neg (by omega), if_neg (by omega), if_neg (by omega), if_neg (by omega), if_neg (by omega), if_neg (by omega), if_neg (by omega), if_neg (by omega), zup_r (by omega)]
          · show J' c s = J c s
            rw [F2, if_neg (by omega), if_neg (by omega), if_neg (by omega), if_neg (by omega), if_neg (by omega), if_neg (by omega), if_neg (by omega), if_neg (by omega), if_neg (by omega), if_neg (by omega)]
    · rw [if_pos (show 4 ≤ nI (p / 8) by rw [show p / 8 = 4 by omega]; decide), zb_s, if_pos rfl, zite_f (fun z => q2 z.2), zb_s, if_pos rfl]; exact fin_leaf h 4
  · rw [if_neg (show ¬ nI (p % 8) = nI s from fun z => q ((nI_eq (by omega) (by omega)).mp z)), zb_s, if_pos rfl, zite_f (fun z => q z.1), zb_s, if_pos rfl]
    exact fin_leaf h 4
theorem brings_pl {J J' : zI} {i t : Nat} {P v B a tt f r : Int32} (hi : i < 4) (ht : t < 8) (F : ∀ c s : Nat, J' c s = if c = 51 ∧ s = 14 then J 51 14 + v else if c = 51 ∧ s = 13 then J 51 13 + 1 else if c = 51 ∧ s = 36 + t then r else if c = 51 ∧ s = 17 then B else if c = 51 ∧ s = 60 then a else if c = 51 ∧ s = 61 then tt else if c = 51 ∧ s = 62 then f else if c = 51 ∧ s = 63 then r else if c = 51 ∧ s = 64 then v else if c = 51 ∧ 65 ≤ s ∧ s < 120 then J 51 (s - 5) else J c s) (c s : Nat) : zup J' 51 (52 + i) P c s = (if c = 51 ∧ s = 14 then zup J 51 (52 + i) P 51 14 + v else if c = 51 ∧ s = 13 then zup J 51 (52 + i) P 51 13 + 1 else if c = 51 ∧ s = 36 + t then r else if c = 51 ∧ s = 17 then B else if c = 51 ∧ s = 60 then a else if c = 51 ∧ s = 61 then tt else if c = 51 ∧ s = 62 then f else if c = 51 ∧ s = 63 then r else if c = 51 ∧ s = 64 then v else if c = 51 ∧ 65 ≤ s ∧ s < 120 then zup J 51 (52 + i) P 51 (s - 5) else zup J 51 (52 + i) P c s) := by
  by_cases q0 : c = 51 ∧ s = 52 + i
  · rw [show zup J' 51 (52 + i) P c s = P by rw [zup_at, if_pos q0]]
    rw [if_neg (by omega), if_neg (by omega), if_neg (by omega), if_neg (by omega), if_neg (by omega), if_neg (by omega), if_neg (by omega), if_neg (by omega), if_neg (by omega), if_neg (by omega), zup_at, if_pos q0]
  rw [zup_r q0, F]
  by_cases q : c = 51 ∧ 65 ≤ s ∧ s < 120
  · rw [if_neg (by omega), if_neg (by omega), if_neg (by omega), if_neg (by omega), if_neg (by omega), if_neg (by omega), if_neg (by omega), if_neg (by omega), if_neg (by omega), if_pos q, if_neg (by omega), if_neg (by omega), if_neg (by omega), if_neg (by omega), if_neg (by omega), if_neg (by omega), if_neg (by omega), if_neg (by omega), if_neg (by omega), if_pos q, zup_r (by omega)]
  · rw [if_neg q, if_neg q, zup_r (b := 14) (by omega), zup_r (b := 13) (by omega), zup_r q0]
theorem q_carry (a b c : Int32) (I J : zI) (h : zRel I J) : ∃ r I' J', fX7_carry 1000 a b c I = some (r, I') ∧ fX8_carry 1000 a b c J = some (r, J') ∧ zRel I' J' ∧ zO7 I I' ∧ zO8 J J' := by
  obtain ⟨m, hm, e8, e7⟩ := h.folk
  obtain ⟨mt, hmt, t8, t7⟩ := h.many
  obtain ⟨s, hs8, hs⟩ := h.wf.small
  obtain ⟨bk, hbk, ebk⟩ := h.wf.booked
  unfold fX7_carry fX8_carry fX6_canCarry fX8_canCarry fX6_carryOver fX8_canWalk
  simp only [one7 _ e7 hm, one8 _ e8 hm, thing7 _ t7 hmt, thing8 _ t8 hmt, room7, room8, zb_s, zif]
  by_cases ha : ¬ zlt m a
  · simp only [zite_f ha]; exact fin_leaf h 0
  replace ha := Classical.not_not.mp ha
  simp only [zite_t ha]
  by_cases hb : ¬ zlt mt b
  · simp only [zite_f hb]; exact fin_leaf h 0
  replace hb := Classical.not_not.mp hb
  simp only [zite_t hb]
  by_cases hc : ¬ zlt 8 c
  · simp only [zite_f hc]; exact fin_leaf h 0
  replace hc := Classical.not_not.mp hc
  simp only [zite_t hc]
  obtain ⟨i, hi, rfl⟩ := ha
  obtain ⟨t, ht, rfl⟩ := hb
  obtain ⟨r, hr, rfl⟩ := hc
  have hi4 : i < 4 := by omega
  have ht8 : t < 8 := by omega
  obtain ⟨p, hp, ep⟩ := h.wf.place hi4
  have e6 : I (1 + 5) i = nI p := (h.1.place hi4).trans ep
  obtain ⟨f, hf, ef⟩ := h.wf.room ht8
  have f4 : I 4 t = nI f := (h.1.room ht8).trans ef
  simp only [room6 hi4 hp e6, level6 hi4 hp e6, level8 hi4 hp ep, roomOf8 hi4 hp ep, move6 hi4 hp e6]
  simp only [zb_s, zif, zgb_p, isOpen6 h.1 (show p % 8 < 8 by omega), isOpen8 (J := J) (show p % 8 < 8 by omega), weight6 h.1 ht8, weighs8 ht8, show (36 : Int32) + nI t = nI (36 + t) from nI_add 36 t, show (56 : Int32) + nI i = nI (56 + i) from nI_add 56 i, zg_k _ ht8, zg_k _ hi4, zg_k _ (show 36 + t < 120 by omega), zg_k _ (show 56 + i < 120 by omega), zn_k (show t < 2 ^ 31 by omega), zn_k (show i < 2 ^ 31 by omega), zn_k (show 36 + t < 2 ^ 31 by omega), zn_k (show 56 + i < 2 ^ 31 by omega), ef, zl_s, show I (1 + 6) i = _ from h.1.strength hi4, show I (1 + 3) t = nI f from f4]
  by_cases q : nI f = nI (p % 8)
  · rw [if_pos q, if_pos q]
    by_cases q3 : J 51 (56 + i) < zheft (J 51 (28 + t)) (J 51 (44 + t)) (nI (p / 8))
    · rw [if_pos q3, zb_s, if_pos rfl]
      by_cases q2 : zshr (J 51 (p % 8)) (nI r) &&& 1 = 1
      · rw [zite_t q2, zb_s, if_pos rfl]; exact fin_leaf h 4
      · rw [zite_f q2, zb_s, if_pos rfl]; exact fin_leaf h 4
    · rw [if_neg q3, zb_s, if_neg (by decide)]
      by_cases q2 : zshr (J 51 (p % 8)) (nI r) &&& 1 = 1
      · rw [zite_t q2, zite_t q2, zb_s, if_neg (by decide)]
        have hgo := go_fin h hi4 (q := 8 * (p / 8) + r) (by omega)
        obtain ⟨v', w1, v2⟩ := stand_but (I := zup (zup I (1 + 5) i (nI (8 * (p / 8) + r))) (1 + 3) t (nI r)) (J := J) (q := p / 8) h.wf hm e8 ((zup_r (by omega)).trans ((zup_r (by omega)).trans e7)) hi hr (by omega) ((zup_r (by omega)).trans zup_s) (fun k hk hk2 => (zup_r (by omega)).trans ((zup_r (by omega)).trans (h.1.place hk)))
        obtain ⟨I', E1, E2⟩ := enter6 (w := 1) (I := zup (zup I (1 + 5) i (nI (8 * (p / 8) + r))) (1 + 3) t (nI r)) (b := bk) ((zup_r (by omega)).trans ((zup_r (by omega)).trans (h.1.booked.trans ebk))) hbk (nI i) (nI t) (nI f) (nI r) v'
        obtain ⟨J', F1, F2⟩ := brings8 (J := J) ebk hbk ht8 (nI i) (nI r) v'
        have ep' : J' 51 (52 + i) = nI p := by
          rw [F2, if_neg (by omega), if_neg (by omega), if_neg (by omega), if_neg (by omega), if_neg (by omega), if_neg (by omega), if_neg (by omega), if_neg (by omega), if_neg (by omega), if_neg (by omega)]
          exact ep
        rw [w1, v2, zb_s, zb_s, zsub1, E1, F1, zb_s, zb_s, zb_s, level8 hi4 hp ep', zb_s, goes8 hi4, zb_s]
        have hz := bk_rel (I := zup I (1 + 5) i (nI (8 * (p / 8) + r))) (J := zup J 51 (52 + i) (nI (8 * (p / 8) + r))) (I' := I') (J' := zup J' 51 (52 + i) (nI (8 * (p / 8) + r))) (i := i) (t := t) (r := r) (f := f) (v := v') (B := nI (if bk < 12 then bk + 1 else 12)) hgo.1.1 ⟨_, by split <;> omega, rfl⟩ ht8 hr ((zup_r (by omega)).trans ef) (fun c s => by rw [E2 c s, enter_pl (fun _ _ => rfl)]) (brings_pl hi4 ht8 (fun c s => by rw [F2 c s, ef]))
        refine ⟨_, _, _, rfl, rfl, zRel_w h hz (fun c hc => funext fun s => ?_) (fun c hc => funext fun s => ?_)⟩
        · show I' c s = I c s
          rw [E2, if_neg (by omega), if_neg (by omega), if_neg (by omega), if_neg (by omega), if_neg (by omega), if_neg (by omega), if_neg (by omega), if_neg (by omega), if_neg (by omega), zup_r (by omega), zup_r (by omega)]
        · show zup J' 51 (52 + i) (nI (8 * (p / 8) + r)) c s = J c s
          rw [zup_r (by omega), F2, if_neg (by omega), if_neg (by omega), if_neg (by omega), if_neg (by omega), if_neg (by omega), if_neg (by omega), if_neg (by omega), if_neg (by omega), if_neg (by omega), if_neg (by omega)]
      · rw [zite_f q2, zite_f q2, zb_s, if_pos rfl]; exact fin_leaf h 4
  · rw [if_neg q, if_neg q, zb_s, if_pos rfl, zb_s, if_pos rfl]
    exact fin_leaf h 4
