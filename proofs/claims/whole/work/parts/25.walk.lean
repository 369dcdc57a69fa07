/-! walking, going in and out, lifting, spots -/
theorem bump {α : Type} (x : Option (Int32 × α)) : (zb (zb x fun o => some (o.1, o.2)) fun o => some (o.1, o.2)) = zb x fun o => some (o.1, o.2) := by
  cases x <;> rfl
theorem pl_m1 : ∀ p : Nat, p < 40 → ¬ nI p = (-1) := by decide +kernel
theorem room6 {w i p : Nat} {I : zI} (hi : i < 4) (hp : p < 40) (e : I (w + 5) i = nI p) : fX6_roomOf w (nI i) I = some (nI (p % 8)) := by
  unfold fX6_roomOf
  rw [zg_k _ hi, zn_k (show i < 2 ^ 31 by omega), e, (pl_dr p hp).2]
theorem level6 {w i p : Nat} {I : zI} (hi : i < 4) (hp : p < 40) (e : I (w + 5) i = nI p) : fX6_levelOf w (nI i) I = some (nI (p / 8)) := by
  unfold fX6_levelOf
  rw [zg_k _ hi, zn_k (show i < 2 ^ 31 by omega), e, (pl_dr p hp).1]
theorem roomOf8 {i p : Nat} {J : zI} (hi : i < 4) (hp : p < 40) (e : J 51 (52 + i) = nI p) : fX8_roomOf (nI i) J = some (nI (p % 8)) := by
  unfold fX8_roomOf
  rw [show (52 : Int32) + nI i = nI (52 + i) from nI_add 52 i, zg_k _ (show 52 + i < 120 by omega), zn_k (show 52 + i < 2 ^ 31 by omega), e, (pl_dr p hp).2]
theorem level8 {i p : Nat} {J : zI} (hi : i < 4) (hp : p < 40) (e : J 51 (52 + i) = nI p) : fX8_levelOf (nI i) J = some (nI (p / 8)) := by
  unfold fX8_levelOf
  rw [show (52 : Int32) + nI i = nI (52 + i) from nI_add 52 i, zg_k _ (show 52 + i < 120 by omega), zn_k (show 52 + i < 2 ^ 31 by omega), e, (pl_dr p hp).1]
theorem goes8 {i l r : Nat} {J : zI} (hi : i < 4) : fX8_goes (nI i) (nI l) (nI r) J = some (zup J 51 (52 + i) (nI (8 * l + r))) := by
  unfold fX8_goes
  rw [show (52 : Int32) + nI i = nI (52 + i) from nI_add 52 i, zg_k _ (show 52 + i < 120 by omega), zn_k (show 52 + i < 2 ^ 31 by omega), show (8 : Int32) * nI l = nI (8 * l) from pk_mul 8 l, nI_add, zl_s]
theorem move6 {w i p r : Nat} {I : zI} (hi : i < 4) (hp : p < 40) (e : I (w + 5) i = nI p) : fX6_moveTo w (nI i) (nI r) I = some (zup I (w + 5) i (nI (8 * (p / 8) + r))) := by
  unfold fX6_moveTo
  rw [level6 hi hp e, zb_s, zg_k _ hi, zn_k (show i < 2 ^ 31 by omega), show nI (p / 8) * (8 : Int32) = nI (p / 8 * 8) from pk_mul _ 8, nI_add, zl_s, Nat.mul_comm]
theorem inside6 {w p s g : Nat} {I : zI} (hp : p < 40) (hs : I w 1 = nI s) (hs8 : s < 8) (hg : I w 2 = nI g) : fX6_placeInside w (nI p) I = some (if p % 8 = s ∧ p / 8 < 4 then nI (8 * (p / 8 + 1) + g) else (-1)) := by
  unfold fX6_placeInside
  rw [(pl_dr p hp).1, (pl_dr p hp).2, hs, hg]
  by_cases q : p % 8 = s
  · rw [if_pos (show nI (p % 8) = nI s by rw [q])]
    by_cases q2 : p / 8 < 4
    · rw [if_neg (show ¬ 4 ≤ nI (p / 8) from Int32.not_le.mpr (show nI (p / 8) < 4 from nI_lt (b := 4) q2 (by decide))), if_pos ⟨q, q2⟩, zbs_l, zb_s, if_neg (show ¬ (1 : Int32) = 0 by decide), nI_1, show nI (p / 8 + 1) * (8 : Int32) = nI ((p / 8 + 1) * 8) from pk_mul _ 8, nI_add, Nat.mul_comm]
    · rw [if_pos (show 4 ≤ nI (p / 8) by rw [show p / 8 = 4 by omega]; decide), if_neg (fun z => q2 z.2), zbs_r, zb_s, if_pos rfl]
  · rw [if_neg (show ¬ nI (p % 8) = nI s from fun z => q ((nI_eq (by omega) (by omega)).mp z)), if_neg (fun z => q z.1), zbs_r, zb_s, if_pos rfl]
theorem outside6 {w p s g : Nat} {I : zI} (hp : p < 40) (hs : I w 1 = nI s) (hg8 : g < 8) (hg : I w 2 = nI g) : fX6_placeOutside w (nI p) I = some (if p % 8 = g ∧ 0 < p / 8 then nI (8 * (p / 8 - 1) + s) else (-1)) := by
  unfold fX6_placeOutside
  rw [(pl_dr p hp).1, (pl_dr p hp).2, hs, hg]
  by_cases q : p % 8 = g
  · rw [if_pos (show nI (p % 8) = nI g by rw [q])]
    by_cases q2 : 0 < p / 8
    · rw [if_neg (show ¬ nI (p / 8) ≤ 0 from Int32.not_le.mpr (show (0 : Int32) < nI (p / 8) from nI_lt (a := 0) q2 (by omega))), if_pos ⟨q, q2⟩, zbs_l, zb_s, if_neg (show ¬ (1 : Int32) = 0 by decide)]
      rw [show nI (p / 8) - 1 = nI (p / 8 - 1) by
        obtain ⟨x, hx⟩ : ∃ x, p / 8 = x + 1 := ⟨p / 8 - 1, by omega⟩
        rw [hx, nI_pred]; rfl]
      rw [show nI (p / 8 - 1) * (8 : Int32) = nI ((p / 8 - 1) * 8) from pk_mul _ 8, nI_add, Nat.mul_comm]
    · rw [if_pos (show nI (p / 8) ≤ 0 by rw [show p / 8 = 0 by omega]; decide), if_neg (fun z => q2 z.2), zbs_r, zb_s, if_pos rfl]
  · rw [if_neg (show ¬ nI (p % 8) = nI g from fun z => q ((nI_eq (by omega) (by omega)).mp z)), if_neg (fun z => q z.1), zbs_r, zb_s, if_pos rfl]
theorem before8 {i p s : Nat} {J : zI} (hi : i < 4) (hp : p < 40) (e : J 51 (52 + i) = nI p) (hs : J 51 8 = nI s) (hs8 : s < 8) : fX8_isBefore (nI i) J = some (zp (p % 8 = s ∧ p / 8 < 4)) := by
  have e8 : ∀ t : Option Int32, zg 8 120 t = t := fun t => zg_k (i := 8) t (by decide)
  have n8 : zn 8 = 8 := rfl
  unfold fX8_isBefore
  rw [roomOf8 hi hp e, level8 hi hp e, zb_s, e8, n8, hs, zb_s]
  by_cases q : p % 8 = s
  · rw [if_pos (show nI (p % 8) = nI s by rw [q])]
    by_cases q2 : p / 8 < 4
    · rw [if_neg (show ¬ 4 ≤ nI (p / 8) from Int32.not_le.mpr (show nI (p / 8) < 4 from nI_lt (b := 4) q2 (by decide))), zp_t ⟨q, q2⟩]
    · rw [if_pos (show 4 ≤ nI (p / 8) by rw [show p / 8 = 4 by omega]; decide), zp_f (fun z => q2 z.2)]
  · rw [if_neg (show ¬ nI (p % 8) = nI s from fun z => q ((nI_eq (by omega) (by omega)).mp z)), zp_f (fun z => q z.1)]
theorem go_fin {I J : zI} (h : zRel I J) {i q : Nat} (hi : i < 4) (hq : q < 40) : zRel (zup I 6 i (nI q)) (zup J 51 (52 + i) (nI q)) ∧ zO7 I (zup I 6 i (nI q)) ∧ zO8 J (zup J 51 (52 + i) (nI q)) :=
  zRel_w h (zRw_up h.1 (by omega) (zcm_place hi) (by rw [zok_place hi]; exact ⟨q, hq, rfl⟩) (by omega)) (fun c hc => zup_ne (by omega)) (fun c hc => zup_ne hc)
theorem goTo7 {I : zI} {i q : Nat} (hi : i < 4) (hq : q < 40) : fX7_goTo (nI i) (nI q) I = some (nI q, zup I 6 i (nI q)) := by
  unfold fX7_goTo
  rw [if_neg (pl_m1 q hq), zg_k _ hi, zn_k (show i < 2 ^ 31 by omega), zl_s]
theorem q_in (a : Int32) (I J : zI) (h : zRel I J) : ∃ r I' J', fX7_in a I = some (r, I') ∧ fX8_in a J = some (r, J') ∧ zRel I' J' ∧ zO7 I I' ∧ zO8 J J' := by
  obtain ⟨m, hm, e8, e7⟩ := h.folk
  obtain ⟨s, hs8, hs⟩ := h.wf.small
  obtain ⟨g, hg8, hg⟩ := h.wf.gate
  have e9 : ∀ t : Option (Int32 × zI), zg 9 120 t = t := fun t => zg_k (i := 9) t (by decide)
  have n9 : zn 9 = 9 := rfl
  unfold fX7_in fX8_in
  simp only [one7 a e7 hm, one8 a e8 hm, zb_s, zif]
  by_cases ha : ¬ zlt m a
  · simp only [zite_f ha]; exact fin_leaf h 0
  replace ha := Classical.not_not.mp ha
  simp only [zite_t ha]
  obtain ⟨i, hi, rfl⟩ := ha
  have hi4 : i < 4 := by omega
  obtain ⟨p, hp, ep⟩ := h.wf.place hi4
  have e6 : I 6 i = nI p := (h.1.place hi4).trans ep
  rw [zg_k _ hi4, zn_k (show i < 2 ^ 31 by omega), e6, inside6 hp (h.1.small.trans hs) hs8 (h.1.gate.trans hg), zb_s, before8 hi4 hp ep hs hs8, level8 hi4 hp ep, zb_s, zb_s, zif, e9, n9, hg]
  by_cases q : p % 8 = s ∧ p / 8 < 4
  · rw [if_pos q, zite_t q, nI_1, goes8 hi4, zb_s, goTo7 hi4 (by omega), zb_s, show (52 : Int32) + nI i = nI (52 + i) from nI_add 52 i, zg_k _ (show 52 + i < 120 by omega), zn_k (show 52 + i < 2 ^ 31 by omega), zup_s]
    exact ⟨_, _, _, rfl, rfl, go_fin h hi4 (by omega)⟩
  · rw [if_neg q, zite_f q]
    unfold fX7_goTo
    rw [if_pos rfl, bump]
    exact fin_leaf h 4
theorem q_out (a : Int32) (I J : zI) (h : zRel I J) : ∃ r I' J', fX7_out a I = some (r, I') ∧ fX8_out a J = some (r, J') ∧ zRel I' J' ∧ zO7 I I' ∧ zO8 J J' := by
  obtain ⟨m, hm, e8, e7⟩ := h.folk
  obtain ⟨s, hs8, hs⟩ := h.wf.small
  obtain ⟨g, hg8, hg⟩ := h.wf.gate
  have e9 : ∀ t : Option (Int32 × zI), zg 9 120 t = t := fun t => zg_k (i := 9) t (by decide)
  have n9 : zn 9 = 9 := rfl
  have e10 : ∀ t : Option (Int32 × zI), zg 8 120 t = t := fun t => zg_k (i := 8) t (by decide)
  have n10 : zn 8 = 8 := rfl
  unfold fX7_out fX8_out
  simp only [one7 a e7 hm, one8 a e8 hm, zb_s, zif]
  by_cases ha : ¬ zlt m a
  · simp only [zite_f ha]; exact fin_leaf h 0
  replace ha := Classical.not_not.mp ha
  simp only [zite_t ha]
  obtain ⟨i, hi, rfl⟩ := ha
  have hi4 : i < 4 := by omega
  obtain ⟨p, hp, ep⟩ := h.wf.place hi4
  have e6 : I 6 i = nI p := (h.1.place hi4).trans ep
  rw [zg_k _ hi4, zn_k (show i < 2 ^ 31 by omega), e6, outside6 hp (h.1.small.trans hs) hg8 (h.1.gate.trans hg), zb_s, roomOf8 hi4 hp ep, level8 hi4 hp ep]
  simp only [zb_s, e9, n9, e10, n10, hg, hs]
  by_cases q : p % 8 = g
  · rw [if_pos (show nI (p % 8) = nI g by rw [q])]
    by_cases q2 : 0 < p / 8
    · rw [if_pos ⟨q, q2⟩, if_neg (show ¬ nI (p / 8) = 0 from fun z => by have := (nI_eq (b := 0) (by omega) (by decide)).mp z; omega)]
      rw [show nI (p / 8) - 1 = nI (p / 8 - 1) by
        obtain ⟨x, hx⟩ : ∃ x, p / 8 = x + 1 := ⟨p / 8 - 1, by omega⟩
        rw [hx, nI_pred]; rfl]
      rw [goes8 hi4, zb_s, goTo7 hi4 (by omega), zb_s, show (52 : Int32) + nI i = nI (52 + i) from nI_add 52 i, zg_k _ (show 52 + i < 120 by omega), zn_k (show 52 + i < 2 ^ 31 by omega), zup_s]
      exact ⟨_, _, _, rfl, rfl, go_fin h hi4 (by omega)⟩
    · rw [if_neg (fun z => q2 z.2), if_pos (show nI (p / 8) = 0 by rw [show p / 8 = 0 by omega]; rfl)]
      unfold fX7_goTo
      rw [if_pos rfl, bump]
      exact fin_leaf h 4
  · rw [if_neg (show ¬ nI (p % 8) = nI g from fun z => q ((nI_eq (by omega) (by omega)).mp z)), if_neg (fun z => q z.1)]
    unfold fX7_goTo
    rw [if_pos rfl, bump]
    exact fin_leaf h 4
theorem q_walk (a b : Int32) (I J : zI) (h : zRel I J) : ∃ r I' J', fX7_walk a b I = some (r, I') ∧ fX8_walk a b J = some (r, J') ∧ zRel I' J' ∧ zO7 I I' ∧ zO8 J J' := by
  obtain ⟨m, hm, e8, e7⟩ := h.folk
  unfold fX7_walk fX8_walk fX8_canWalk
  simp only [one7 a e7 hm, one8 a e8 hm, room7, room8, zb_s, zif]
  by_cases ha : ¬ zlt m a
  · simp only [zite_f ha]; exact fin_leaf h 0
  replace ha := Classical.not_not.mp ha
  simp only [zite_t ha]
  by_cases hb : ¬ zlt 8 b
  · simp only [zite_f hb]; exact fin_leaf h 0
  replace hb := Classical.not_not.mp hb
  simp only [zite_t hb]
  obtain ⟨i, hi, rfl⟩ := ha
  obtain ⟨r, hr, rfl⟩ := hb
  have hi4 : i < 4 := by omega
  obtain ⟨p, hp, ep⟩ := h.wf.place hi4
  have e6 : I (1 + 5) i = nI p := (h.1.place hi4).trans ep
  rw [room6 hi4 hp e6, roomOf8 hi4 hp ep, level8 hi4 hp ep, move6 hi4 hp e6]
  simp only [zb_s, isOpen6 h.1 (show p % 8 < 8 by omega), isOpen8 (J := J) (show p % 8 < 8 by omega), zgb_p, zif]
  by_cases q : zshr (J 51 (p % 8)) (nI r) &&& 1 = 1
  · rw [zite_t q, zite_t q, goes8 hi4, zb_s, show (52 : Int32) + nI i = nI (52 + i) from nI_add 52 i, zg_k _ (show 52 + i < 120 by omega), zn_k (show 52 + i < 2 ^ 31 by omega), zup_s, zg_k _ hi4, zn_k (show i < 2 ^ 31 by omega)]
    refine ⟨_, _, _, rfl, ?_, go_fin h hi4 (q := 8 * (p / 8) + r) (by omega)⟩
    rw [show zup I (1 + 5) i (nI (8 * (p / 8) + r)) 6 i = nI (8 * (p / 8) + r) from zup_s]
  · rw [zite_f q, zite_f q]
    exact fin_leaf h 4
theorem q_lift (a b c : Int32) (I J : zI) (h : zRel I J) : ∃ r I' J', fX7_lift a b c I = some (r, I') ∧ fX8_lift a b c J = some (r, J') ∧ zRel I' J' ∧ zO7 I I' ∧ zO8 J J' := by
  obtain ⟨m, hm, e8, e7⟩ := h.folk
  obtain ⟨s, hs8, hs⟩ := h.wf.small
  have e13 : ∀ t : Option (Int32 × zI), zg 13 120 t = t := fun t => zg_k (i := 13) t (by decide)
  have n13 : zn 13 = 13 := rfl
  unfold fX7_lift fX8_lift fX6_canLift
  simp only [one7 _ e7 hm, one8 _ e8 hm, room7, room8, zb_s, zif]
  by_cases ha : ¬ zlt m a
  · simp only [zite_f ha]; exact fin_leaf h 0
  replace ha := Classical.not_not.mp ha
  simp only [zite_t ha]
  by_cases hb : ¬ zlt m b
  · simp only [zite_f hb]; exact fin_leaf h 0
  replace hb := Classical.not_not.mp hb
  simp only [zite_t hb]
  by_cases hab : a = b
  · rw [if_pos hab, if_pos hab]; exact fin_leaf h 0
  rw [if_neg hab, if_neg hab]
  by_cases hc : ¬ zlt 8 c
  · simp only [zite_f hc]; exact fin_leaf h 0
  replace hc := Classical.not_not.mp hc
  simp only [zite_t hc]
  obtain ⟨i, hi, rfl⟩ := ha
  obtain ⟨k, hk, rfl⟩ := hb
  obtain ⟨r, hr, rfl⟩ := hc
  have hi4 : i < 4 := by omega
  have hk4 : k < 4 := by omega
  obtain ⟨p, hp, ep⟩ := h.wf.place hi4
  have e6 : I (1 + 5) i = nI p := (h.1.place hi4).trans ep
  obtain ⟨v, hv, ev⟩ := h.wf.place hk4
  have f6 : I (1 + 5) k = nI v := (h.1.place hk4).trans ev
  rw [room6 hi4 hp e6, room6 hk4 hv f6, level6 hi4 hp e6, level6 hk4 hv f6, roomOf8 hk4 hv ev, level8 hi4 hp ep, level8 hk4 hv ev, before8 hi4 hp ep hs hs8, move6 hk4 hv f6]
  simp only [zb_s, zif, e13, n13, nI_1, h.1.small, hs, goes8 hk4, zl_s]
  by_cases q : p % 8 = s
  · rw [if_pos (show nI (p % 8) = nI s by rw [q])]
    by_cases q2 : v / 8 = p / 8 + 1
    · rw [if_pos (show nI (v / 8) = nI (p / 8 + 1) by rw [q2]), if_pos (show nI (v / 8) = nI (p / 8 + 1) by rw [q2]), zite_t ⟨q, by omega⟩, zb_s, if_neg (show ¬ (1 : Int32) = 0 by decide)]
      by_cases q3 : nI (v % 8) = nI r
      · rw [if_pos q3, if_pos q3]; exact fin_leaf h 4
      · rw [if_neg q3, if_neg q3]
        have hz := zRw_up (zRw_up h.1 (by omega) (zcm_place hk4) (v := nI (8 * (v / 8) + r)) (by rw [zok_place hk4]; exact ⟨_, by omega, rfl⟩) (by omega)) (j := 13) (by omega) rfl (v := J 51 13 + 1) (zok_free (by omega)) (by omega)
        have e1 : zup I (1 + 5) k (nI (8 * (v / 8) + r)) 1 11 = J 51 13 := (zup_r (by omega)).trans h.1.moves
        have e2 : zup J 51 (52 + k) (nI (8 * (v / 8) + r)) 51 13 = J 51 13 := zup_r (by omega)
        rw [e1, e2, zup_s, zup_s]
        refine ⟨_, _, _, rfl, rfl, zRel_w h hz (fun c hc => ?_) (fun c hc => ?_)⟩
        · rw [zup_ne (by omega), zup_ne (by omega)]
        · rw [zup_ne hc, zup_ne hc]
    · have q4 : ¬ nI (v / 8) = nI (p / 8 + 1) := fun z => q2 ((nI_eq (by omega) (by omega)).mp z)
      rw [if_neg q4, if_neg q4, zb_s, if_pos rfl]
      by_cases q5 : p % 8 = s ∧ p / 8 < 4
      · rw [zite_t q5]; exact fin_leaf h 4
      · rw [zite_f q5]; exact fin_leaf h 4
  · rw [if_neg (show ¬ nI (p % 8) = nI s from fun z => q ((nI_eq (by omega) (by omega)).mp z)), zb_s, if_pos rfl, zite_f (fun z => q z.1)]
    exact fin_leaf h 4
