/-! people, bookings, seed, spots -/
theorem pl_dr : ∀ p : Nat, p < 40 → nI p / 8 = nI (p / 8) ∧ zrem (nI p) 8 = nI (p % 8) := by decide +kernel
theorem addOne6 {w m : Nat} {I : zI} (h : I w 8 = nI m) (hm : m < 4) (a s : Int32) : fX6_addOne w a s I = some (nI m, zup (zup (zup I (w + 5) m a) (w + 6) m s) w 8 (nI (m + 1))) := by
  unfold fX6_addOne
  have z1 : ∀ (I : zI) (c : Nat) (v : Int32), 0 < c → zup I (w + c) m v w 8 = I w 8 := fun I c v hc => zup_r (by omega)
  have h9 : I w 8 < 4 := by
    rw [h]; exact nI_lt (b := 4) hm (by decide)
  rw [if_pos h9]
  simp only [zl_s, h, z1 _ 5 _ (by omega), z1 _ 6 _ (by omega), zg_k _ hm, zn_k (show m < 2 ^ 31 by omega), nI_1, zup_s]
  rw [show nI (m + 1) - 1 = nI m from nI_pred m]
theorem comes8 {m : Nat} {J : zI} (h : J 51 12 = nI m) (hm : m < 4) (a s : Int32) : fX8_comes a s J = some (zup (zup (zup J 51 (52 + m) a) 51 (56 + m) s) 51 12 (nI (m + 1))) := by
  unfold fX8_comes
  have z1 : ∀ (I : zI) (c : Nat) (v : Int32), c ≠ 12 → zup I 51 c v 51 12 = I 51 12 := fun I c v hc => zup_r (by omega)
  have e12 : ∀ t : Option zI, zg 12 120 t = t := fun t => zg_k (i := 12) t (by decide)
  have n12 : zn 12 = 12 := rfl
  simp only [e12, n12, h, show (52 : Int32) + nI m = nI (52 + m) from nI_add 52 m, show (56 : Int32) + nI m = nI (56 + m) from nI_add 56 m, zg_k _ (show 52 + m < 120 by omega), zg_k _ (show 56 + m < 120 by omega), zl_s, zn_k (show 52 + m < 2 ^ 31 by omega), zn_k (show 56 + m < 2 ^ 31 by omega), z1 _ (52 + m) _ (by omega), z1 _ (56 + m) _ (by omega), nI_1]
theorem q_one (a : Int32) (I J : zI) (h : zRel I J) : ∃ r I' J', fX7_one a I = some (r, I') ∧ fX8_one a J = some (r, J') ∧ zRel I' J' ∧ zO7 I I' ∧ zO8 J J' := by
  obtain ⟨m, hm, e8, e7⟩ := h.folk
  unfold fX7_one fX8_one
  simp only [place7, place8, zb_s, zif]
  by_cases ha : ¬ zlt 40 a
  · simp only [zite_f ha]; exact fin_leaf h 0
  replace ha := Classical.not_not.mp ha
  simp only [zite_t ha]
  have e12 : ∀ t : Option (Int32 × zI), zg 12 120 t = t := fun t => zg_k (i := 12) t (by decide)
  have n12 : zn 12 = 12 := rfl
  simp only [e12, n12, e7, e8]
  by_cases h8 : m = 4
  · subst h8
    rw [if_neg (show ¬ nI 4 < 4 by decide), if_pos (show nI 4 = 4 from rfl)]
    exact fin_leaf h 1
  · have hm2 : m < 4 := by omega
    rw [if_pos (show nI m < 4 from nI_lt (b := 4) hm2 (by decide)), if_neg (show ¬ nI m = 4 from fun q => h8 ((nI_eq (b := 4) (by omega) (by decide)).mp q))]
    rw [addOne6 e7 hm2, comes8 e8 hm2, zb_s, zb_s]
    refine ⟨_, _, _, rfl, ?_, zRel_w h (zRw_up (zRw_up (zRw_up h.1 (by omega) (zcm_place hm2) (by rw [zok_place hm2]; exact ha) (by omega)) (by omega) (zcm_strength hm2) (by rw [zok_strength hm2]; exact ⟨10, by decide, rfl⟩) (by omega)) (j := 12) (by omega) rfl (show zlt 5 _ from ⟨m + 1, by omega, rfl⟩) (by omega)) (fun c hc => ?_) (fun c hc => ?_)⟩
    · rw [zup_s, show nI (m + 1) - 1 = nI m from nI_pred m]
    · show (zup (zup (zup I (1 + 5) m a) (1 + 6) m 10) 1 8 (nI (m + 1))) c = I c
      rw [zup_ne (by omega), zup_ne (by omega), zup_ne (by omega)]
    · show (zup (zup (zup J 51 (52 + m) a) 51 (56 + m) 10) 51 12 (nI (m + 1))) c = J c
      rw [zup_ne hc, zup_ne hc, zup_ne hc]
theorem traitI {i k : Nat} : (52 + 4 * nI k) + nI i = nI (52 + 4 * k + i) := by
  rw [show (4 : Int32) * nI k = nI (4 * k) from pk_mul 4 k, show (52 : Int32) + nI (4 * k) = nI (52 + 4 * k) from nI_add 52 _, nI_add]
theorem trait6 {w : Nat} {I J : zI} (h : zRw w I J) {i k : Nat} (hi : i < 4) (hk : k < 2) : fX6_traitOf w (nI i) (nI k) I = some (J 51 (52 + 4 * k + i)) := by
  unfold fX6_traitOf
  simp only [zg_k _ hi, zn_k (show i < 2 ^ 31 by omega), h.place hi, h.strength hi]
  rcases (show k = 0 ∨ k = 1 by omega) with rfl | rfl
  · rw [if_pos (show nI 0 = 0 from rfl)]
  · rw [if_neg (show ¬ nI 1 = 0 by decide)]
theorem setTrait6 {w : Nat} {I : zI} {i k : Nat} (hi : i < 4) (hk : k < 2) (v : Int32) : fX6_setTrait w (nI i) (nI k) v I = some (zup I (w + 5 + k) i v) := by
  unfold fX6_setTrait
  simp only [zg_k _ hi, zn_k (show i < 2 ^ 31 by omega), zl_s]
  rcases (show k = 0 ∨ k = 1 by omega) with rfl | rfl
  · rw [if_pos (show nI 0 = 0 from rfl)]
  · rw [if_neg (show ¬ nI 1 = 0 by decide)]
theorem zcm_trait {w i k : Nat} (hi : i < 4) (hk : k < 2) : zcm w (52 + 4 * k + i) = (w + 5 + k, i) := by
  rcases (show k = 0 ∨ k = 1 by omega) with rfl | rfl
  · exact zcm_place hi
  · exact zcm_strength hi
theorem q_person (a b v : Int32) (I J : zI) (h : zRel I J) : ∃ r I' J', fX7_person a b v I = some (r, I') ∧ fX8_person a b v J = some (r, J') ∧ zRel I' J' ∧ zO7 I I' ∧ zO8 J J' := by
  obtain ⟨m, hm, e8, e7⟩ := h.folk
  have fin : ∀ (i k : Nat), i < m → k < 2 → zok (52 + 4 * k + i) v → ∃ r I' J', (zb (fX6_traitOf 1 (nI i) (nI k) I) fun o18 => zb (fX6_setTrait 1 (nI i) (nI k) v I) fun o21 => some (o18, o21)) = some (r, I') ∧ (zg ((52 + (4 * nI k)) + nI i) 120 (zl (J 51 (zn ((52 + (4 * nI k)) + nI i))) fun v14 => zg ((52 + (4 * nI k)) + nI i) 120 (zl (zup J 51 (zn ((52 + (4 * nI k)) + nI i)) v) fun J15 => some (v14, J15)))) = some (r, J') ∧ zRel I' J' ∧ zO7 I I' ∧ zO8 J J' := by
    intro i k hi hk hv
    rw [trait6 h.1 (by omega) hk, setTrait6 (by omega) hk, traitI, zb_s, zb_s]
    simp only [zg_k _ (show 52 + 4 * k + i < 120 by omega), zn_k (show 52 + 4 * k + i < 2 ^ 31 by omega), zl_s]
    exact ⟨_, _, _, rfl, rfl, zRel_w h (zRw_up h.1 (by omega) (zcm_trait (by omega) hk) hv (by omega)) (fun c hc => zup_ne (by omega)) (fun c hc => zup_ne hc)⟩
  unfold fX7_person fX8_person
  simp only [one7 a e7 hm, one8 a e8 hm, place8, within7, within8I, zb_s, zif]
  rw [show Int32.toInt 0 = 0 from rfl, show Int64.toInt 0 = 0 from rfl, show Int32.toInt 1 = 1 from rfl, show Int64.toInt 60 = 60 from rfl]
  by_cases q0 : b = nI 0
  · subst q0
    rw [if_pos (show nI 0 = 0 from rfl), if_pos (show nI 0 = 0 from rfl)]
    simp only [zb_s, zif, zite_t (show zbt 0 1 (nI 0) from ⟨by decide, by decide⟩)]
    rw [zlt_bt (n := 40) (b := 0) (e := Int32.toInt 39) (by decide) rfl rfl]
    by_cases ha : ¬ zlt m a
    · simp only [zite_f ha]; exact fin_leaf h 0
    replace ha := Classical.not_not.mp ha
    simp only [zite_t ha]
    by_cases hv : ¬ zlt 40 v
    · simp only [zite_f hv]; exact fin_leaf h 0
    replace hv := Classical.not_not.mp hv
    simp only [zite_t hv]
    obtain ⟨i, hi, rfl⟩ := ha
    exact fin i 0 hi (by decide) (by rw [show 52 + 4 * 0 + i = 52 + i from rfl, zok_place (by omega)]; exact hv)
  by_cases q1 : b = nI 1
  · subst q1
    rw [if_neg (show ¬ nI 1 = 0 by decide), if_neg (show ¬ nI 1 = 0 by decide), if_pos (show nI 1 = 1 from rfl)]
    simp only [zb_s, zif, zite_t (show zbt 0 1 (nI 1) from ⟨by decide, by decide⟩)]
    rw [show Int32.toInt 60 = 60 from rfl]
    by_cases hv : ¬ zbt 0 60 v
    · simp only [zite_f hv, zb_s, ↓reduceIte]
      by_cases ha : ¬ zlt m a
      · simp only [zite_f ha]; exact fin_leaf h 0
      replace ha := Classical.not_not.mp ha
      simp only [zite_t ha]; exact fin_leaf h 0
    replace hv := Classical.not_not.mp hv
    simp only [zite_t hv, zb_s]
    rw [if_neg (show ¬ (1 : Int32) = 0 by decide)]
    by_cases ha : ¬ zlt m a
    · simp only [zite_f ha]; exact fin_leaf h 0
    replace ha := Classical.not_not.mp ha
    simp only [zite_t ha]
    obtain ⟨i, hi, rfl⟩ := ha
    refine fin i 1 hi (by decide) ?_
    rw [show 52 + 4 * 1 + i = 56 + i from rfl, zok_strength (by omega)]
    rw [← zlt_bt (n := 61) (b := 0) (e := 60) (by decide) rfl rfl]
    exact hv
  · have hb : ¬ zbt 0 1 b := by
      intro q
      rw [zlt_bt (n := 2) (b := 0) (e := 1) (by decide) rfl rfl] at q
      obtain ⟨k, hk, rfl⟩ := q
      rcases (show k = 0 ∨ k = 1 by omega) with rfl | rfl
      · exact q0 rfl
      · exact q1 rfl
    simp only [zite_f hb]
    rw [if_neg (show ¬ b = 0 from q0), if_neg (show ¬ b = 1 from q1)]
    simp only [zb_s, ↓reduceIte]
    by_cases ha : ¬ zlt m a
    · simp only [zite_f ha]; exact fin_leaf h 0
    replace ha := Classical.not_not.mp ha
    simp only [zite_t ha]; exact fin_leaf h 0
theorem q_tell (a b : Int32) (I J : zI) (h : zRel I J) : ∃ r I' J', fX7_tell a b I = some (r, I') ∧ fX8_tell a b J = some (r, J') ∧ zRel I' J' ∧ zO7 I I' ∧ zO8 J J' := by
  obtain ⟨m, hm, e8, e7⟩ := h.folk
  unfold fX7_tell fX8_tell
  simp only [one7 a e7 hm, one8 a e8 hm, within7, within8I, zb_s, zif]
  rw [show Int32.toInt 0 = 0 from rfl, show Int64.toInt 0 = 0 from rfl, show Int32.toInt 1 = 1 from rfl, show Int64.toInt 1 = 1 from rfl, zlt_bt (n := 2) (b := 0) (e := 1) (by decide) rfl rfl]
  by_cases ha : ¬ zlt m a
  · simp only [zite_f ha]; exact fin_leaf h 0
  replace ha := Classical.not_not.mp ha
  simp only [zite_t ha]
  by_cases hb : ¬ zlt 2 b
  · simp only [zite_f hb]; exact fin_leaf h 0
  replace hb := Classical.not_not.mp hb
  simp only [zite_t hb]
  obtain ⟨i, hi, rfl⟩ := ha
  obtain ⟨k, hk, rfl⟩ := hb
  rw [trait6 h.1 (by omega) hk, traitI, zg_k _ (show 52 + 4 * k + i < 120 by omega), zn_k (show 52 + 4 * k + i < 2 ^ 31 by omega), zb_s]
  exact ⟨_, _, _, rfl, rfl, h, zO7.rf, zO8.rf⟩
theorem q_now (a : Int32) (I J : zI) (h : zRel I J) : ∃ r I' J', fX7_now a I = some (r, I') ∧ fX8_now a J = some (r, J') ∧ zRel I' J' ∧ zO7 I I' ∧ zO8 J J' := by
  have fin : ∀ x y : Int32, x = y → ∃ (r : Int32) (I' J' : zI), some (x, I) = some (r, I') ∧ some (y, J) = some (r, J') ∧ zRel I' J' ∧ zO7 I I' ∧ zO8 J J' := fun x y e => ⟨y, I, J, by rw [e], rfl, h, zO7.rf, zO8.rf⟩
  have g : ∀ k : Nat, k < 120 → ∀ t : Option (Int32 × zI), zg (nI k) 120 t = t := fun k hk t => zg_k t hk
  unfold fX7_now fX8_now
  by_cases q : a = 0
  · rw [if_pos q, if_pos q, show ∀ t : Option (Int32 × zI), zg 13 120 t = t from g 13 (by decide)]; exact fin _ _ h.1.moves
  rw [if_neg q, if_neg q]
  by_cases q : a = 1
  · rw [if_pos q, if_pos q, show ∀ t : Option (Int32 × zI), zg 15 120 t = t from g 15 (by decide)]; exact fin _ _ h.1.day
  rw [if_neg q, if_neg q]
  by_cases q : a = 2
  · rw [if_pos q, if_pos q, show ∀ t : Option (Int32 × zI), zg 8 120 t = t from g 8 (by decide)]; exact fin _ _ h.1.small
  rw [if_neg q, if_neg q]
  by_cases q : a = 3
  · rw [if_pos q, if_pos q, show ∀ t : Option (Int32 × zI), zg 9 120 t = t from g 9 (by decide)]; exact fin _ _ h.1.gate
  rw [if_neg q, if_neg q]
  by_cases q : a = 4
  · rw [if_pos q, if_pos q, show ∀ t : Option (Int32 × zI), zg 10 120 t = t from g 10 (by decide)]; exact fin _ _ h.1.slip
  rw [if_neg q, if_neg q]
  by_cases q : a = 5
  · rw [if_pos q, if_pos q, show ∀ t : Option (Int32 × zI), zg 14 120 t = t from g 14 (by decide)]; exact fin _ _ h.1.met
  rw [if_neg q, if_neg q]
  by_cases q : a = 6
  · rw [if_pos q, if_pos q, show ∀ t : Option (Int32 × zI), zg 17 120 t = t from g 17 (by decide)]; exact fin _ _ h.1.booked
  rw [if_neg q, if_neg q]
  exact fin_leaf h 0
theorem q_book (a b : Int32) (I J : zI) (h : zRel I J) : ∃ r I' J', fX7_book a b I = some (r, I') ∧ fX8_book a b J = some (r, J') ∧ zRel I' J' ∧ zO7 I I' ∧ zO8 J J' := by
  obtain ⟨m, hm, e8⟩ := h.wf.booked
  have e7 : I 1 13 = nI m := h.1.booked.trans e8
  have e17 : ∀ t : Option (Int32 × zI), zg 17 120 t = t := fun t => zg_k (i := 17) t (by decide)
  have n17 : zn 17 = 17 := rfl
  unfold fX7_book fX8_book
  simp only [within7, within8I, zb_s, zif, e17, n17, e7, e8]
  rw [show Int32.toInt 0 = 0 from rfl, show Int64.toInt 0 = 0 from rfl, show Int32.toInt 4 = 4 from rfl, show Int64.toInt 4 = 4 from rfl, zlt_bt (n := 5) (b := 0) (e := 4) (by decide) rfl rfl]
  by_cases h0 : a < 0
  · rw [if_pos h0, if_pos h0]; exact fin_leaf h 0
  rw [if_neg h0, if_neg h0]
  by_cases hb : ¬ zlt 5 b
  · simp only [zite_f hb]; exact fin_leaf h 0
  replace hb := Classical.not_not.mp hb
  simp only [zite_t hb]
  by_cases hc : a < nI m
  · rw [if_pos hc, if_neg (Int32.not_le.mpr hc)]
    have ha : zlt m a := by
      refine zlt_of (by omega) ⟨?_, ?_⟩
      · have : ¬ a.toInt < (0 : Int32).toInt := fun q => h0 (Int32.lt_iff_toInt_lt.mpr q)
        have e : (0 : Int32).toInt = 0 := rfl
        omega
      · have := Int32.lt_iff_toInt_lt.mp hc
        rw [nI_toInt (by omega)] at this
        exact this
    obtain ⟨i, hi, rfl⟩ := ha
    obtain ⟨k, hk, rfl⟩ := hb
    have p7 : nI i * 5 + nI k = nI (i * 5 + k) := by
      rw [show nI i * 5 = nI (i * 5) from pk_mul i 5, nI_add]
    have p8 : 60 + 5 * nI i + nI k = nI (60 + 5 * i + k) := by
      rw [show (5 : Int32) * nI i = nI (5 * i) from pk_mul 5 i, show (60 : Int32) + nI (5 * i) = nI (60 + 5 * i) from nI_add 60 _, nI_add]
    rw [p7, p8, zg_k _ (show i * 5 + k < 60 by omega), zg_k _ (show 60 + 5 * i + k < 120 by omega), zn_k (show i * 5 + k < 2 ^ 31 by omega), zn_k (show 60 + 5 * i + k < 2 ^ 31 by omega)]
    rw [show I 8 (i * 5 + k) = _ from h.1.book (k := i * 5 + k) (by omega), show 60 + (i * 5 + k) = 60 + 5 * i + k by omega]
    exact ⟨_, _, _, rfl, rfl, h, zO7.rf, zO8.rf⟩
  · rw [if_neg hc, if_pos (Int32.not_lt.mp hc)]
    exact fin_leaf h 3
theorem q_seed (a : Int32) (I J : zI) (h : zRel I J) : ∃ r I' J', fX7_seed a I = some (r, I') ∧ fX8_seed a J = some (r, J') ∧ zRel I' J' ∧ zO7 I I' ∧ zO8 J J' := by
  have e16 : ∀ t : Option (Int32 × zI), zg 16 120 t = t := fun t => zg_k (i := 16) t (by decide)
  have n16 : zn 16 = 16 := rfl
  unfold fX7_seed fX8_seed
  simp only [zl_s, e16, n16, h.1.z]
  exact ⟨_, _, _, rfl, rfl, zRel_w h (zRw_up h.1 (by omega) rfl (zok_free (by omega)) (by omega)) (fun c hc => zup_ne (by omega)) (fun c hc => zup_ne hc)⟩
