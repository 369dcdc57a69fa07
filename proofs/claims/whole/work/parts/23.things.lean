/-! rules, things, people -/
theorem nIc (c k : Nat) : nI c + nI k = nI (c + k) := nI_add c k
theorem z0T : (Int32.toInt 0) = 0 := rfl
theorem z0L : (Int64.toInt 0) = 0 := rfl
theorem setRule6 {w k : Nat} (hk : k < 3) (v : Int32) (I : zI) : fX6_setRule w (nI k) v I = some (I w (k + 1), zup I w (k + 1) v) := by
  rcases (show k = 0 ∨ k = 1 ∨ k = 2 by omega) with rfl | rfl | rfl <;> rfl
theorem ruleW8 {k : Nat} (hk : k < 3) (v : Int32) (J : zI) : (zg (8 + nI k) 120 (zl (J 51 (zn (8 + nI k))) fun v11 => zg (8 + nI k) 120 (zl (zup J 51 (zn (8 + nI k)) v) fun J12 => some (v11, J12)))) = some (J 51 (8 + k), zup J 51 (8 + k) v) := by
  rw [show (8 : Int32) + nI k = nI (8 + k) from nI_add 8 k]
  simp only [zg_k _ (show 8 + k < 120 by omega), zl_s, zn_k (show 8 + k < 2 ^ 31 by omega)]
theorem zcm_rule {w k : Nat} (hk : k < 3) : zcm w (8 + k) = (w, k + 1) := by
  rcases (show k = 0 ∨ k = 1 ∨ k = 2 by omega) with rfl | rfl | rfl <;> rfl
theorem q_rule (a v : Int32) (I J : zI) (h : zRel I J) : ∃ r I' J', fX7_rule a v I = some (r, I') ∧ fX8_rule a v J = some (r, J') ∧ zRel I' J' ∧ zO7 I I' ∧ zO8 J J' := by
  have fin : ∀ k : Nat, k < 3 → zok (8 + k) v → ∃ r I' J', some (I 1 (k + 1), zup I 1 (k + 1) v) = some (r, I') ∧ some (J 51 (8 + k), zup J 51 (8 + k) v) = some (r, J') ∧ zRel I' J' ∧ zO7 I I' ∧ zO8 J J' := by
    intro k hk hv
    refine ⟨_, _, _, rfl, by rw [h.1.at (8 + k) (by omega) (zcm_rule hk)], zRel_w h (zRw_up h.1 (by omega) (zcm_rule hk) hv (by omega)) (fun c hc => zup_ne (by omega)) (fun c hc => zup_ne hc)⟩
  unfold fX7_rule fX8_rule
  simp only [room8, within7, within8I, zb_s, zif]
  rw [show Int32.toInt 0 = 0 from rfl, show Int64.toInt 0 = 0 from rfl, show Int32.toInt 2 = 2 from rfl, show Int64.toInt 1 = 1 from rfl, show Int64.toInt 100 = 100 from rfl]
  by_cases h2 : a = 2
  · subst h2
    simp only [zite_t (show zbt 0 2 2 from ⟨by decide, by decide⟩), ↓reduceIte, zb_s, zif]
    rw [show Int32.toInt 100 = 100 from rfl]
    by_cases hv : ¬ zbt 0 100 v
    · simp only [zite_f hv]; exact fin_leaf h 0
    replace hv := Classical.not_not.mp hv
    simp only [zite_t hv]
    rw [show fX6_setRule 1 2 v I = _ from setRule6 (k := 2) (by decide) v I, zb_s]
    rw [show (zg (8 + 2) 120 (zl (J 51 (zn (8 + 2))) fun v11 => zg (8 + 2) 120 (zl (zup J 51 (zn (8 + 2)) v) fun J12 => some (v11, J12)))) = _ from ruleW8 (k := 2) (by decide) v J]
    exact fin 2 (by decide) (zok_free (by omega))
  · simp only [h2, ↓reduceIte, zb_s]
    by_cases h3 : ¬ zbt 0 1 a
    · simp only [zite_f h3, ↓reduceIte, zb_s]
      have h4 : ¬ zbt 0 2 a := by
        rintro ⟨q1, q2⟩
        apply h2
        apply Int32.toInt_inj.mp
        show a.toInt = 2
        have : ¬ a.toInt ≤ 1 := fun q => h3 ⟨q1, q⟩
        omega
      simp only [zite_f h4]; exact fin_leaf h 0
    replace h3 := Classical.not_not.mp h3
    have h4 : zbt 0 2 a := ⟨h3.1, by have := h3.2; omega⟩
    simp only [zite_t h3, zite_t h4, zif, zb_s]
    rw [zlt_bt (n := 8) (b := 0) (e := Int32.toInt 7) (by decide) rfl rfl]
    by_cases hv : ¬ zlt 8 v
    · simp only [zite_f hv, ↓reduceIte, zb_s]; exact fin_leaf h 0
    replace hv := Classical.not_not.mp hv
    simp only [zite_t hv, zb_s]
    rw [zlt_bt (n := 2) (b := 0) (e := 1) (by decide) rfl rfl] at h3
    obtain ⟨k, hk, rfl⟩ := h3
    rw [setRule6 (by omega), zb_s, if_neg (by decide), ruleW8 (by omega)]
    refine fin k (by omega) ?_
    unfold zok
    rw [if_neg (by omega), if_pos (by omega)]
    exact hv
theorem zRw_many {w : Nat} {I J : zI} {m : Nat} (h : zRw w I J) (hm : J 51 11 = nI m) (hm2 : m < 8) : zRw w (zup I w 4 (nI (m + 1))) (zup J 51 11 (nI (m + 1))) := by
  refine ⟨fun k hk => ?_, ⟨fun j hj => ?_, fun k hk => ?_, fun a b ha hb => ?_⟩⟩
  · have e := rW_up (I := I) (w := w) (j := 11) (k := k) (v := nI (m + 1)) (by omega) hk
    rw [show (zcm w 11) = (w, 4) from rfl] at e
    rw [e, zup_same]
    unfold upd
    by_cases q : k = 11
    · rw [if_pos q, if_pos q]
    · rw [if_neg q, if_neg q]; exact h.1 k hk
  · rw [zup_same]
    unfold upd
    by_cases q : j = 11
    · rw [if_pos q, q]
      exact ⟨m + 1, by omega, rfl⟩
    · rw [if_neg q]; exact h.2.1 j hj
  · rw [zup_same]
    unfold upd
    rw [if_neg (by omega), if_pos rfl]
    rcases h.2.2.1 k hk with q | ⟨t, m2, q1, q2, q3, q4⟩
    · exact Or.inl q
    · right
      have : m2 = m := (nI_eq (by omega) (by omega)).mp (q3.symm.trans hm)
      exact ⟨t, m + 1, by omega, by omega, rfl, q4⟩
  · rw [zup_same]
    unfold upd
    rw [if_neg (by omega), if_neg (by omega)]
    exact h.2.2.2 a b ha hb
theorem zup_r {I : zI} {c s : Nat} {v : Int32} {a b : Nat} (h : ¬ (a = c ∧ b = s)) : zup I c s v a b = I a b := by rw [zup_at, if_neg h]
theorem zup_s {I : zI} {c s : Nat} {v : Int32} : zup I c s v c s = v := by rw [zup_at, if_pos ⟨rfl, rfl⟩]
theorem addThing6 {w m : Nat} {I : zI} (h : I w 4 = nI m) (hm : m < 8) (k r b : Int32) : fX6_addThing w k r b I = some (nI m, zup (zup (zup (zup I (w + 2) m k) (w + 3) m r) (w + 4) m b) w 4 (nI (m + 1))) := by
  unfold fX6_addThing
  have z1 : ∀ (I : zI) (c : Nat) (v : Int32), 0 < c → zup I (w + c) m v w 4 = I w 4 := fun I c v hc => zup_r (by omega)
  have h9 : I w 4 < 8 := by
    rw [h]; exact nI_lt (b := 8) hm (by decide)
  rw [if_pos h9]
  simp only [zl_s, h, z1 _ 2 _ (by omega), z1 _ 3 _ (by omega), z1 _ 4 _ (by omega), zg_k _ hm, zn_k (show m < 2 ^ 31 by omega), nI_1, zup_s]
  rw [show nI (m + 1) - 1 = nI m from nI_pred m]
theorem lays8 {m : Nat} {J : zI} (h : J 51 11 = nI m) (hm : m < 8) (k r b : Int32) : fX8_lays k r b J = some (zup (zup (zup (zup J 51 (28 + m) k) 51 (36 + m) r) 51 (44 + m) b) 51 11 (nI (m + 1))) := by
  unfold fX8_lays
  have z1 : ∀ (I : zI) (c : Nat) (v : Int32), c ≠ 11 → zup I 51 c v 51 11 = I 51 11 := fun I c v hc => zup_r (by omega)
  have e11 : ∀ t : Option zI, zg 11 120 t = t := fun t => zg_k (i := 11) t (by decide)
  have n11 : zn 11 = 11 := rfl
  simp only [e11, n11, h, show (28 : Int32) + nI m = nI (28 + m) from nI_add 28 m, show (36 : Int32) + nI m = nI (36 + m) from nI_add 36 m, show (44 : Int32) + nI m = nI (44 + m) from nI_add 44 m, zg_k _ (show 28 + m < 120 by omega), zg_k _ (show 36 + m < 120 by omega), zg_k _ (show 44 + m < 120 by omega), zl_s, zn_k (show 28 + m < 2 ^ 31 by omega), zn_k (show 36 + m < 2 ^ 31 by omega), zn_k (show 44 + m < 2 ^ 31 by omega), z1 _ (28 + m) _ (by omega), z1 _ (36 + m) _ (by omega), z1 _ (44 + m) _ (by omega), nI_1]
theorem zRw_thing {w m : Nat} {I J : zI} (h : zRw w I J) (hm : J 51 11 = nI m) (hm2 : m < 8) {k r b : Int32} (hk : zlt 7 k) (hr : zlt 8 r) (hb : zlt 61 b) : zRw w (zup (zup (zup (zup I (w + 2) m k) (w + 3) m r) (w + 4) m b) w 4 (nI (m + 1))) (zup (zup (zup (zup J 51 (28 + m) k) 51 (36 + m) r) 51 (44 + m) b) 51 11 (nI (m + 1))) := by
  refine zRw_many (m := m) ?_ ?_ hm2
  · refine zRw_up (zRw_up (zRw_up h (by omega) (zcm_kind hm2) (by rw [zok_kind hm2]; exact hk) (by omega)) (by omega) (zcm_room hm2) (by rw [zok_room hm2]; exact hr) (by omega)) (by omega) (zcm_bulk hm2) (by rw [zok_bulk hm2]; exact hb) (by omega)
  · rw [zup_r (by omega), zup_r (by omega), zup_r (by omega)]; exact hm
theorem q_thing (a b : Int32) (I J : zI) (h : zRel I J) : ∃ r I' J', fX7_thing a b I = some (r, I') ∧ fX8_thing a b J = some (r, J') ∧ zRel I' J' ∧ zO7 I I' ∧ zO8 J J' := by
  obtain ⟨m, hm, e8, e7⟩ := h.many
  unfold fX7_thing fX8_thing
  simp only [kind7, kind8, room7, room8, zb_s, zif]
  by_cases ha : ¬ zlt 7 a
  · simp only [zite_f ha]; exact fin_leaf h 0
  replace ha := Classical.not_not.mp ha
  simp only [zite_t ha]
  by_cases hb : ¬ zlt 8 b
  · simp only [zite_f hb]; exact fin_leaf h 0
  replace hb := Classical.not_not.mp hb
  simp only [zite_t hb]
  have e11 : ∀ t : Option (Int32 × zI), zg 11 120 t = t := fun t => zg_k (i := 11) t (by decide)
  have n11 : zn 11 = 11 := rfl
  simp only [e11, n11, e7, e8]
  by_cases h8 : m = 8
  · subst h8
    rw [if_neg (show ¬ nI 8 < 8 by decide), if_pos (show nI 8 = 8 from rfl)]
    exact fin_leaf h 1
  · have hm2 : m < 8 := by omega
    rw [if_pos (show nI m < 8 from nI_lt (b := 8) hm2 (by decide)), if_neg (show ¬ nI m = 8 from fun q => h8 ((nI_eq (b := 8) (by omega) (by decide)).mp q))]
    rw [addThing6 e7 hm2, lays8 e8 hm2, zb_s, zb_s]
    refine ⟨_, _, _, rfl, ?_, zRel_w h (zRw_thing h.1 e8 hm2 ha hb ⟨8, by decide, rfl⟩) (fun c hc => ?_) (fun c hc => ?_)⟩
    · rw [zup_s, show nI (m + 1) - 1 = nI m from nI_pred m]
    · show (zup (zup (zup (zup I (1 + 2) m a) (1 + 3) m b) (1 + 4) m 8) 1 4 (nI (m + 1))) c = I c
      rw [zup_ne (by omega), zup_ne (by omega), zup_ne (by omega), zup_ne (by omega)]
    · show (zup (zup (zup (zup J 51 (28 + m) a) 51 (36 + m) b) 51 (44 + m) 8) 51 11 (nI (m + 1))) c = J c
      rw [zup_ne hc, zup_ne hc, zup_ne hc, zup_ne hc]
/-- what a thing weighs -/
def zheft (k b l : Int32) : Int32 := if k = 1 then zshr b l + 1 else if k = 2 then 2 * zshr b l + 2 else if k = 3 then 2 * zshr b l + 7 else if k = 4 then 1 else if k = 5 then 0 else if k = 6 then b else zshr b l
theorem heft8 (k b l : Int32) : fX8_heft k b l = some (zheft k b l) := by
  unfold fX8_heft zheft
  simp only [zl_s]
  repeat' split
  all_goals rfl
theorem weight7 (k b l : Int32) : fX0_weightOf k b l = some (zheft k b l) := by
  have e1 : ∀ v : Int32, 2 * (v + 1) = 2 * v + 2 := fun v => by rw [Int32.mul_add]; rfl
  have e2 : ∀ v : Int32, 2 * v + 2 + 5 = 2 * v + 7 := fun v => by rw [Int32.add_assoc]; rfl
  unfold fX0_weightOf zheft
  simp only [zl_s, e1, e2]
  repeat' split
  all_goals rfl
theorem weight6 {w : Nat} {I J : zI} (h : zRw w I J) {t : Nat} (ht : t < 8) (l : Int32) : fX6_weightIn w (nI t) l I = some (zheft (J 51 (28 + t)) (J 51 (44 + t)) l) := by
  unfold fX6_weightIn
  rw [zg_k _ ht, zg_k _ ht, zn_k (by omega), h.kind ht, h.bulk ht, weight7, zb_s]
theorem weighs8 {J : zI} {t : Nat} (ht : t < 8) (l : Int32) : fX8_weighs (nI t) l J = some (zheft (J 51 (28 + t)) (J 51 (44 + t)) l) := by
  unfold fX8_weighs
  rw [show (28 : Int32) + nI t = nI (28 + t) from nI_add 28 t, show (44 : Int32) + nI t = nI (44 + t) from nI_add 44 t, zg_k _ (show 28 + t < 120 by omega), zg_k _ (show 44 + t < 120 by omega), zn_k (by omega), zn_k (by omega), heft8, zb_s]
theorem partOf6 {w : Nat} {I J : zI} (h : zRw w I J) {t j : Nat} (ht : t < 8) (hj : j < 3) : fX6_partOf w (nI t) (nI j) I = some (J 51 (28 + 8 * j + t)) := by
  unfold fX6_partOf
  simp only [zg_k _ ht, zn_k (show t < 2 ^ 31 by omega), h.kind ht, h.room ht, h.bulk ht]
  rcases (show j = 0 ∨ j = 1 ∨ j = 2 by omega) with rfl | rfl | rfl
  · rw [if_pos (show nI 0 = 0 from rfl)]
  · rw [if_neg (show ¬ nI 1 = 0 by decide), if_pos (show nI 1 = 1 from rfl)]
  · rw [if_neg (show ¬ nI 2 = 0 by decide), if_neg (show ¬ nI 2 = 1 by decide)]
theorem partI {t j : Nat} : (28 + 8 * nI j) + nI t = nI (28 + 8 * j + t) := by
  rw [show (8 : Int32) * nI j = nI (8 * j) from pk_mul 8 j, show (28 : Int32) + nI (8 * j) = nI (28 + 8 * j) from nI_add 28 _, nI_add]
theorem zlt_cases3 {a : Int32} (h : zbt 0 2 a) : zlt 3 a := by rw [zlt_bt (n := 3) (b := 0) (e := 2) (by decide) rfl rfl] at h; exact h
theorem q_of (a b : Int32) (I J : zI) (h : zRel I J) : ∃ r I' J', fX7_of a b I = some (r, I') ∧ fX8_of a b J = some (r, J') ∧ zRel I' J' ∧ zO7 I I' ∧ zO8 J J' := by
  obtain ⟨m, hm, e8, e7⟩ := h.many
  unfold fX7_of fX8_of
  simp only [thing7 a e7 hm, thing8 a e8 hm, within7, within8I, zb_s, zif]
  rw [show Int32.toInt 0 = 0 from rfl, show Int64.toInt 0 = 0 from rfl, show Int32.toInt 7 = 7 from rfl, show Int64.toInt 7 = 7 from rfl]
  by_cases ha : ¬ zlt m a
  · simp only [zite_f ha]; exact fin_leaf h 0
  replace ha := Classical.not_not.mp ha
  simp only [zite_t ha]
  by_cases hb : ¬ zbt 0 7 b
  · simp only [zite_f hb]; exact fin_leaf h 0
  replace hb := Classical.not_not.mp hb
  simp only [zite_t hb]
  obtain ⟨t, ht, rfl⟩ := ha
  have ht8 : t < 8 := by omega
  by_cases h3 : 3 ≤ b
  · simp only [h3, ↓reduceIte, weight6 h.1 ht8, weighs8 ht8, zb_s]
    exact ⟨_, _, _, rfl, rfl, h, zO7.rf, zO8.rf⟩
  · simp only [h3, ↓reduceIte]
    have h4 : zlt 3 b := by
      apply zlt_cases3
      refine ⟨hb.1, ?_⟩
      have : ¬ (3 : Int32).toInt ≤ b.toInt := fun q => h3 (Int32.le_iff_toInt_le.mpr q)
      have e : (3 : Int32).toInt = 3 := rfl
      omega
    obtain ⟨j, hj, rfl⟩ := h4
    rw [partOf6 h.1 ht8 hj, partI, zg_k _ (show 28 + 8 * j + t < 120 by omega), zn_k (by omega), zb_s]
    exact ⟨_, _, _, rfl, rfl, h, zO7.rf, zO8.rf⟩
theorem setPart6 {w : Nat} {I : zI} {t j : Nat} (ht : t < 8) (hj : j < 3) (v : Int32) : fX6_setPart w (nI t) (nI j) v I = some (zup I (w + 2 + j) t v) := by
  unfold fX6_setPart
  simp only [zg_k _ ht, zn_k (show t < 2 ^ 31 by omega), zl_s]
  rcases (show j = 0 ∨ j = 1 ∨ j = 2 by omega) with rfl | rfl | rfl
  · rw [if_pos (show nI 0 = 0 from rfl)]
  · rw [if_neg (show ¬ nI 1 = 0 by decide), if_pos (show nI 1 = 1 from rfl)]
  · rw [if_neg (show ¬ nI 2 = 0 by decide), if_neg (show ¬ nI 2 = 1 by decide)]
theorem zcm_part {w t j : Nat} (ht : t < 8) (hj : j < 3) : zcm w (28 + 8 * j + t) = (w + 2 + j, t) := by
  rcases (show j = 0 ∨ j = 1 ∨ j = 2 by omega) with rfl | rfl | rfl
  · exact zcm_kind ht
  · exact zcm_room ht
  · exact zcm_bulk ht
theorem q_change (a b v : Int32) (I J : zI) (h : zRel I J) : ∃ r I' J', fX7_change a b v I = some (r, I') ∧ fX8_change a b v J = some (r, J') ∧ zRel I' J' ∧ zO7 I I' ∧ zO8 J J' := by
  obtain ⟨m, hm, e8, e7⟩ := h.many
  unfold fX7_change fX8_change fX7_canBePart
  simp only [thing7 a e7 hm, thing8 a e8 hm, kind7, kind8, room7, room8, within7, within8I, zb_s, zgb_p, zif]
  rw [show Int32.toInt 0 = 0 from rfl, show Int32.toInt 1 = 1 from rfl, show Int32.toInt 2 = 2 from rfl, show Int32.toInt 60 = 60 from rfl, show Int64.toInt 1 = 1 from rfl, show Int64.toInt 60 = 60 from rfl]
  by_cases ha : ¬ zlt m a
  · simp only [zite_f ha]
    -- the reference has looked at the value first
    have hx : ∃ x : Int32, (if b = 0 then some (zp (zlt 7 v)) else if b = 1 then some (zp (zlt 8 v)) else if b = 2 then zite (zbt 1 60 v) (some 1) (some 0) else some 0) = some x := by
      by_cases q0 : b = 0
      · rw [if_pos q0]; exact ⟨_, rfl⟩
      rw [if_neg q0]
      by_cases q1 : b = 1
      · rw [if_pos q1]; exact ⟨_, rfl⟩
      rw [if_neg q1]
      by_cases q2 : b = 2
      · rw [if_pos q2]
        by_cases q : zbt 1 60 v
        · rw [zite_t q]; exact ⟨_, rfl⟩
        · rw [zite_f q]; exact ⟨_, rfl⟩
      rw [if_neg q2]; exact ⟨_, rfl⟩
    obtain ⟨x, hx⟩ := hx
    rw [hx, zb_s]
    exact fin_leaf h 0
  replace ha := Classical.not_not.mp ha
  simp only [zite_t ha]
  obtain ⟨t, ht, rfl⟩ := ha
  have ht8 : t < 8 := by omega
  by_cases hb : ¬ zbt 0 2 b
  · have q0 : ¬ b = 0 := fun q => hb (by rw [q]; exact ⟨by decide, by decide⟩)
    have q1 : ¬ b = 1 := fun q => hb (by rw [q]; exact ⟨by decide, by decide⟩)
    have q2 : ¬ b = 2 := fun q => hb (by rw [q]; exact ⟨by decide, by decide⟩)
    simp only [zite_f hb, q0, q1, q2, ↓reduceIte, zb_s]
    exact fin_leaf h 0
  replace hb := Classical.not_not.mp hb
  simp only [zite_t hb]
  obtain ⟨j, hj, rfl⟩ := zlt_cases3 hb
  have fin : zok (28 + 8 * j + t) v → ∃ r I' J', (zb (fX6_partOf 1 (nI t) (nI j) I) fun o14 => zb (fX6_setPart 1 (nI t) (nI j) v I) fun o17 => some (o14, o17)) = some (r, I') ∧ (zg (28 + 8 * nI j + nI t) 120 (zl (J 51 (zn (28 + 8 * nI j + nI t))) fun v16 => zg (28 + 8 * nI j + nI t) 120 (zl (zup J 51 (zn (28 + 8 * nI j + nI t)) v) fun J17 => some (v16, J17)))) = some (r, J') ∧ zRel I' J' ∧ zO7 I I' ∧ zO8 J J' := by
    intro hv
    rw [partOf6 h.1 ht8 hj, setPart6 ht8 hj, partI, zb_s, zb_s]
    simp only [zg_k _ (show 28 + 8 * j + t < 120 by omega), zn_k (show 28 + 8 * j + t < 2 ^ 31 by omega), zl_s]
    exact ⟨_, _, _, rfl, rfl, zRel_w h (zRw_up h.1 (by omega) (zcm_part ht8 hj) hv (by omega)) (fun c hc => zup_ne (by omega)) (fun c hc => zup_ne hc)⟩
  rcases (show j = 0 ∨ j = 1 ∨ j = 2 by omega) with rfl | rfl | rfl
  · rw [if_pos (show nI 0 = 0 from rfl), if_pos (show nI 0 = 0 from rfl), zb_s, zb_s, zif, zif]
    by_cases hv : ¬ zlt 7 v
    · simp only [zite_f hv]; exact fin_leaf h 0
    replace hv := Classical.not_not.mp hv
    simp only [zite_t hv]
    exact fin (by rw [show 28 + 8 * 0 + t = 28 + t from rfl, zok_kind ht8]; exact hv)
  · rw [if_neg (show ¬ nI 1 = 0 by decide), if_pos (show nI 1 = 1 from rfl), if_neg (show ¬ nI 1 = 0 by decide), if_pos (show nI 1 = 1 from rfl), zb_s, zb_s, zif, zif]
    by_cases hv : ¬ zlt 8 v
    · simp only [zite_f hv]; exact fin_leaf h 0
    replace hv := Classical.not_not.mp hv
    simp only [zite_t hv]
    exact fin (by rw [show 28 + 8 * 1 + t = 36 + t from rfl, zok_room ht8]; exact hv)
  · rw [if_neg (show ¬ nI 2 = 0 by decide), if_neg (show ¬ nI 2 = 1 by decide), if_neg (show ¬ nI 2 = 0 by decide), if_neg (show ¬ nI 2 = 1 by decide), if_pos (show nI 2 = 2 from rfl), zb_s, zif]
    by_cases hv : ¬ zbt 1 60 v
    · simp only [zite_f hv, zb_s, ↓reduceIte]; exact fin_leaf h 0
    replace hv := Classical.not_not.mp hv
    simp only [zite_t hv, zb_s]
    rw [if_neg (show ¬ (1 : Int32) = 0 by decide)]
    refine fin ?_
    rw [show 28 + 8 * 2 + t = 44 + t from rfl, zok_bulk ht8]
    rw [← zlt_bt (n := 61) (b := 0) (e := 60) (by decide) rfl rfl]
    exact ⟨by have := hv.1; omega, hv.2⟩
