/-! loops; spots, tape wiped, counts -/
theorem zit_l {σ ρ : Type} {g : σ → Option (σ ⊕ ρ)} {s s' : σ} {n : Nat} (e : g s = some (.inl s')) : zit g (n + 1) s = zit g n s' := by simp only [zit, e]
theorem zit_r {σ ρ : Type} {g : σ → Option (σ ⊕ ρ)} {s : σ} {r : ρ} {n : Nat} (e : g s = some (.inr r)) : zit g (n + 1) s = some r := by simp only [zit, e]
theorem zit_rel {σ τ ρ υ : Type} {g : σ → Option (σ ⊕ ρ)} {f : τ → Option (τ ⊕ υ)} (P : Nat → σ → τ → Prop) (Q : ρ → υ → Prop) (hs : ∀ k s t, P k s t → (∃ s' t' k', g s = some (.inl s') ∧ f t = some (.inl t') ∧ k' < k ∧ P k' s' t') ∨ (∃ r u, g s = some (.inr r) ∧ f t = some (.inr u) ∧ Q r u)) : ∀ (n k : Nat) (s : σ) (t : τ), P k s t → k < n → ∃ r u, zit g n s = some r ∧ zit f n t = some u ∧ Q r u := by
  intro n
  induction n with
  | zero => intro k s t _ hk; omega
  | succ n ih =>
    intro k s t hp hk
    rcases hs k s t hp with ⟨s', t', k', e1, e2, hk', hp'⟩ | ⟨r, u, e1, e2, hq⟩
    · obtain ⟨r, u, f1, f2, hq⟩ := ih k' s' t' hp' (by omega)
      exact ⟨r, u, (zit_l e1).trans f1, (zit_l e2).trans f2, hq⟩
    · exact ⟨r, u, zit_r e1, zit_r e2, hq⟩
theorem zit_one {σ ρ : Type} {g : σ → Option (σ ⊕ ρ)} (P : Nat → σ → Prop) (Q : ρ → Prop) (hs : ∀ k s, P k s → (∃ s' k', g s = some (.inl s') ∧ k' < k ∧ P k' s') ∨ (∃ r, g s = some (.inr r) ∧ Q r)) : ∀ (n k : Nat) (s : σ), P k s → k < n → ∃ r, zit g n s = some r ∧ Q r := by
  intro n
  induction n with
  | zero => intro k s _ hk; omega
  | succ n ih =>
    intro k s hp hk
    rcases hs k s hp with ⟨s', k', e1, hk', hp'⟩ | ⟨r, e1, hq⟩
    · obtain ⟨r, f1, hq⟩ := ih k' s' hp' (by omega)
      exact ⟨r, (zit_l e1).trans f1, hq⟩
    · exact ⟨r, zit_r e1, hq⟩
theorem zz_nle {a b : Nat} (h : b < 2 ^ 31) (hab : a < b) : ¬ nI b ≤ nI a := Int32.not_le.mpr (nI_lt hab h)
theorem q_lie (a : Int32) (I J : zI) (h : zRel I J) : ∃ r I' J', fX7_lie 1000 a I = some (r, I') ∧ fX8_lie 1000 a J = some (r, J') ∧ zRel I' J' ∧ zO7 I I' ∧ zO8 J J' := by
  obtain ⟨m, hm, e8, e7⟩ := h.many
  have e11 : ∀ t : Option ((Int32 × Int32) ⊕ Int32), zg 11 120 t = t := fun t => zg_k (i := 11) t (by decide)
  have n11 : zn 11 = 11 := rfl
  unfold fX7_lie fX8_lie fX6_thingsIn
  simp only [room7, room8, zb_s, zif]
  by_cases ha : ¬ zlt 8 a
  · simp only [zite_f ha]; exact fin_leaf h 0
  replace ha := Classical.not_not.mp ha
  simp only [zite_t ha]
  obtain ⟨r, u, e1, e2, e3⟩ := zit_rel (g := gX6_thingsIn_4 1 a I) (f := gX8_lie_17 a J) (fun k s t => ∃ (j : Nat) (v : Int32), j ≤ m ∧ k = m - j ∧ s = (v, nI j) ∧ t = (v, nI j)) (fun r u => r = u) (by
    rintro k s t ⟨j, v, hj, rfl, rfl, rfl⟩
    unfold gX6_thingsIn_4 gX8_lie_17
    simp only [e11, n11, e7, e8, zl_s, nI_1, Int32.or_zero]
    by_cases q : j = m
    · subst q
      right
      rw [if_pos (Int32.le_refl _), if_pos (Int32.le_refl _)]
      exact ⟨v, v, rfl, rfl, rfl⟩
    · left
      have hj8 : j < 8 := by omega
      rw [if_neg (zz_nle (by omega) (by omega)), if_neg (zz_nle (by omega) (by omega)), show (36 : Int32) + nI j = nI (36 + j) from nI_add 36 j]
      rw [zg_k _ hj8, zg_k _ (show 36 + j < 120 by omega), zn_k (show j < 2 ^ 31 by omega), zn_k (show 36 + j < 2 ^ 31 by omega), show I (1 + 3) j = _ from h.1.room hj8]
      by_cases q2 : J 51 (36 + j) = a
      · rw [if_pos q2]
        exact ⟨_, _, m - (j + 1), rfl, rfl, by omega, j + 1, _, by omega, rfl, rfl, rfl⟩
      · rw [if_neg q2]
        exact ⟨_, _, m - (j + 1), rfl, rfl, by omega, j + 1, _, by omega, rfl, rfl, rfl⟩) 1000 m (0, 0) (0, 0) ⟨0, 0, by omega, rfl, rfl, rfl⟩ (by omega)
  subst e3
  rw [e1, e2, zb_s, zb_s, zb_s]
  exact ⟨_, _, _, rfl, rfl, h, zO7.rf, zO8.rf⟩
theorem full_hold {I J : zI} (h : zRel I J) : ∃ r : Int32, fX6_fullSpots 1000 1 I = some r ∧ fX8_holding 1000 J = some r := by
  unfold fX6_fullSpots fX8_holding
  obtain ⟨r, u, e1, e2, e3⟩ := zit_rel (g := gX6_fullSpots_4 1 I) (f := gX8_holding_4 J) (fun k s t => ∃ (j : Nat) (v : Int32), j ≤ 10 ∧ k = 10 - j ∧ s = (v, nI j) ∧ t = (v, nI j)) (fun r u => r = u) (by
    rintro k s t ⟨j, v, hj, rfl, rfl, rfl⟩
    unfold gX6_fullSpots_4 gX8_holding_4
    simp only [zl_s, nI_1, Int32.add_zero]
    by_cases q : j = 10
    · subst q
      right
      rw [if_pos (show (10 : Int32) ≤ nI 10 from Int32.le_refl _), if_pos (show (10 : Int32) ≤ nI 10 from Int32.le_refl _)]
      exact ⟨v, v, rfl, rfl, rfl⟩
    · left
      have hj8 : j < 10 := by omega
      rw [if_neg (show ¬ (10 : Int32) ≤ nI j from zz_nle (b := 10) (by omega) (by omega)), if_neg (show ¬ (10 : Int32) ≤ nI j from zz_nle (b := 10) (by omega) (by omega)), show (18 : Int32) + nI j = nI (18 + j) from nI_add 18 j]
      rw [zg_k _ hj8, zg_k _ (show 18 + j < 120 by omega), zn_k (show j < 2 ^ 31 by omega), zn_k (show 18 + j < 2 ^ 31 by omega), show I (1 + 8) j = _ from h.1.spot hj8]
      rcases h.wf.2.1 j hj8 with q2 | ⟨t, m, q1, q2, q3, q4⟩
      · rw [q2, if_pos rfl, if_neg (by decide)]
        exact ⟨_, _, 10 - (j + 1), rfl, rfl, by omega, j + 1, _, by omega, rfl, rfl, rfl⟩
      · rw [q4, if_neg (pl_m1 t (by omega)), if_pos (show (0 : Int32) ≤ nI t from Int32.not_lt.mp (nI_pos (by omega)))]
        exact ⟨_, _, 10 - (j + 1), rfl, rfl, by omega, j + 1, _, by omega, rfl, rfl, rfl⟩) 1000 10 (0, 0) (0, 0) ⟨0, 0, by omega, rfl, rfl, rfl⟩ (by omega)
  subst e3
  rw [e1, e2]
  exact ⟨_, rfl, rfl⟩
theorem q_count (a : Int32) (I J : zI) (h : zRel I J) : ∃ r I' J', fX7_count 1000 a I = some (r, I') ∧ fX8_count 1000 a J = some (r, J') ∧ zRel I' J' ∧ zO7 I I' ∧ zO8 J J' := by
  have fin : ∀ x y : Int32, x = y → ∃ (r : Int32) (I' J' : zI), some (x, I) = some (r, I') ∧ some (y, J) = some (r, J') ∧ zRel I' J' ∧ zO7 I I' ∧ zO8 J J' := fun x y e => ⟨y, I, J, by rw [e], rfl, h, zO7.rf, zO8.rf⟩
  have g : ∀ k : Nat, k < 120 → ∀ t : Option (Int32 × zI), zg (nI k) 120 t = t := fun k hk t => zg_k t hk
  unfold fX7_count fX8_count
  by_cases q : a = 0
  · rw [if_pos q, if_pos q, show ∀ t : Option (Int32 × zI), zg 15 120 t = t from g 15 (by decide)]; exact fin _ _ h.1.day
  rw [if_neg q, if_neg q]
  by_cases q : a = 1
  · rw [if_pos q, if_pos q, show ∀ t : Option (Int32 × zI), zg 11 120 t = t from g 11 (by decide)]; exact fin _ _ h.1.things
  rw [if_neg q, if_neg q]
  by_cases q : a = 2
  · rw [if_pos q, if_pos q, show ∀ t : Option (Int32 × zI), zg 12 120 t = t from g 12 (by decide)]; exact fin _ _ h.1.people
  rw [if_neg q, if_neg q]
  by_cases q : a = 3
  · rw [if_pos q, if_pos q, show ∀ t : Option (Int32 × zI), zg 13 120 t = t from g 13 (by decide)]; exact fin _ _ h.1.moves
  rw [if_neg q, if_neg q]
  by_cases q : a = 4
  · rw [if_pos q, if_pos q, show ∀ t : Option (Int32 × zI), zg 14 120 t = t from g 14 (by decide)]; exact fin _ _ h.1.met
  rw [if_neg q, if_neg q]
  by_cases q : a = 5
  · rw [if_pos q, if_pos q]; exact fin _ _ h.2.2.1.1
  rw [if_neg q, if_neg q]
  by_cases q : a = 6
  · rw [if_pos q, if_pos q, show ∀ t : Option (Int32 × zI), zg 16 120 t = t from g 16 (by decide)]; exact fin _ _ h.1.z
  rw [if_neg q, if_neg q]
  by_cases q : a = 7
  · obtain ⟨r, e1, e2⟩ := full_hold h
    rw [if_pos q, if_pos q, e1, e2]; exact fin r r rfl
  rw [if_neg q, if_neg q]
  exact fin_leaf h 0
theorem zRw_spot {w k : Nat} {I J : zI} {v : Int32} (h : zRw w I J) (hk : k < 10) (hv : v = (-1) ∨ ∃ t m : Nat, t < m ∧ m < 9 ∧ J 51 11 = nI m ∧ v = nI t) : zRw w (zup I (w + 8) k v) (zup J 51 (18 + k) v) := by
  refine ⟨fun j hj => ?_, ⟨fun j hj => ?_, fun j hj => ?_, fun a b ha hb => ?_⟩⟩
  · have e := rW_up (I := I) (w := w) (j := 18 + k) (k := j) (v := v) (by omega) hj
    rw [zcm_spot hk] at e
    rw [e, zup_same]
    unfold upd
    by_cases q : j = 18 + k
    · rw [if_pos q, if_pos q]
    · rw [if_neg q, if_neg q]; exact h.1 j hj
  · rw [zup_same]
    unfold upd
    by_cases q : j = 18 + k
    · rw [if_pos q]; exact zok_free (by omega)
    · rw [if_neg q]; exact h.2.1 j hj
  · rw [zup_same]
    unfold upd
    rw [if_neg (show ¬ (11 = 18 + k) by omega)]
    by_cases q : 18 + j = 18 + k
    · rw [if_pos q]; exact hv
    · rw [if_neg q]; exact h.2.2.1 j hj
  · rw [zup_same]
    unfold upd
    rw [if_neg (by omega), if_neg (by omega)]
    exact h.2.2.2 a b ha hb
theorem hold_bt {m : Nat} (hm : m < 9) {a : Int32} : zbt (-1) ((m : Int) - 1) a ↔ a = (-1) ∨ zlt m a := by
  constructor
  · rintro ⟨q1, q2⟩
    by_cases q : a.toInt = -1
    · left
      exact Int32.toInt_inj.mp (q.trans rfl)
    · right
      exact zlt_of (by omega) ⟨by omega, by omega⟩
  · rintro (q | ⟨t, ht, q⟩)
    · rw [q]; exact ⟨by decide, by rw [show (-1 : Int32).toInt = -1 from rfl]; omega⟩
    · rw [q]; unfold zbt; rw [nI_toInt (by omega)]; omega
theorem q_hold (a b : Int32) (I J : zI) (h : zRel I J) : ∃ r I' J', fX7_hold a b I = some (r, I') ∧ fX8_hold a b J = some (r, J') ∧ zRel I' J' ∧ zO7 I I' ∧ zO8 J J' := by
  obtain ⟨m, hm, e8, e7⟩ := h.many
  have e11 : ∀ t : Option (Int32 × zI), zg 11 120 t = t := fun t => zg_k (i := 11) t (by decide)
  have n11 : zn 11 = 11 := rfl
  have fin : ∀ k : Nat, k < 10 → (b = (-1) ∨ zlt m b) → ∃ (r : Int32) (I' J' : zI), (zg (nI k) 10 (zl (zup I 9 (zn (nI k)) b) fun J6 => some (1, J6))) = some (r, I') ∧ (zg (18 + nI k) 120 (zl (zup J 51 (zn (18 + nI k)) b) fun J8 => some (1, J8))) = some (r, J') ∧ zRel I' J' ∧ zO7 I I' ∧ zO8 J J' := by
    intro k hk hb
    rw [show (18 : Int32) + nI k = nI (18 + k) from nI_add 18 k, zg_k _ hk, zg_k _ (show 18 + k < 120 by omega), zn_k (show k < 2 ^ 31 by omega), zn_k (show 18 + k < 2 ^ 31 by omega), zl_s, zl_s]
    refine ⟨_, _, _, rfl, rfl, zRel_w h (zRw_spot h.1 hk ?_) (fun c hc => zup_ne (by omega)) (fun c hc => zup_ne hc)⟩
    rcases hb with q | ⟨t, ht, q⟩
    · exact Or.inl q
    · exact Or.inr ⟨t, m, ht, hm, e8, q⟩
  unfold fX7_hold fX8_hold
  simp only [thing7 b e7 hm, within7, within8I, e11, n11, e8, zb_s, zif, Int32.toInt_toInt64, nI_m1 (show m < 2 ^ 30 by omega)]
  rw [show Int32.toInt 0 = 0 from rfl, show Int64.toInt 0 = 0 from rfl, show Int32.toInt 9 = 9 from rfl, show Int64.toInt 9 = 9 from rfl, show Int64.toInt (-1) = -1 from rfl, zlt_bt (n := 10) (b := 0) (e := 9) (by decide) rfl rfl]
  by_cases ha : ¬ zlt 10 a
  · simp only [zite_f ha]; exact fin_leaf h 0
  replace ha := Classical.not_not.mp ha
  simp only [zite_t ha]
  obtain ⟨k, hk, rfl⟩ := ha
  by_cases hb : b = (-1)
  · rw [if_pos hb, zite_t ((hold_bt hm).mpr (Or.inl hb))]
    exact fin k hk (Or.inl hb)
  · rw [if_neg hb]
    by_cases hc : zlt m b
    · rw [zite_t hc, zite_t ((hold_bt hm).mpr (Or.inr hc))]
      exact fin k hk (Or.inr hc)
    · rw [zite_f hc, zite_f (fun q => ((hold_bt hm).mp q).elim hb hc)]
      exact fin_leaf h 0
theorem under_eq : ∀ a : Nat, a < 7 → ∀ b : Nat, b < 7 → fX0_isUnder 1000 (nI a) (nI b) = fX8_isUnder 1000 (nI a) (nI b) ∧ (fX8_isUnder 1000 (nI a) (nI b) = some 0 ∨ fX8_isUnder 1000 (nI a) (nI b) = some 1) := by decide +kernel
theorem q_as (a b : Int32) (I J : zI) (h : zRel I J) : ∃ r I' J', fX7_as 1000 a b I = some (r, I') ∧ fX8_as 1000 a b J = some (r, J') ∧ zRel I' J' ∧ zO7 I I' ∧ zO8 J J' := by
  obtain ⟨m, hm, e8, e7⟩ := h.many
  unfold fX7_as fX8_as
  simp only [thing7 _ e7 hm, kind7, kind8, within7, within8I, zb_s, zif]
  rw [show Int32.toInt 0 = 0 from rfl, show Int64.toInt 0 = 0 from rfl, show Int32.toInt 9 = 9 from rfl, show Int64.toInt 9 = 9 from rfl, zlt_bt (n := 10) (b := 0) (e := 9) (by decide) rfl rfl]
  by_cases ha : ¬ zlt 10 a
  · simp only [zite_f ha]; exact fin_leaf h 0
  replace ha := Classical.not_not.mp ha
  simp only [zite_t ha]
  by_cases hb : ¬ zlt 7 b
  · simp only [zite_f hb]; exact fin_leaf h 0
  replace hb := Classical.not_not.mp hb
  simp only [zite_t hb]
  obtain ⟨k, hk, rfl⟩ := ha
  obtain ⟨c, hc, rfl⟩ := hb
  rw [show (18 : Int32) + nI k = nI (18 + k) from nI_add 18 k, zg_k _ hk, zg_k _ (show 18 + k < 120 by omega), zn_k (show k < 2 ^ 31 by omega), zn_k (show 18 + k < 2 ^ 31 by omega), zl_s, zl_s, show I 9 k = _ from h.1.spot hk]
  rcases h.wf.2.1 k hk with q | ⟨t, m2, q1, q2, q3, q4⟩
  · rw [q, if_neg (show ¬ (0 : Int32) ≤ -1 by decide), zite_f (show ¬ zlt m (-1) from fun z => by
      obtain ⟨t, ht, z⟩ := z
      exact pl_m1 t (by omega) z.symm)]
    exact fin_leaf h 5
  · have hmm : m2 = m := (nI_eq (by omega) (by omega)).mp (q3.symm.trans e8)
    have ht8 : t < 8 := by omega
    obtain ⟨x, hx, ex⟩ := h.wf.kind ht8
    rw [q4, zite_t (show zlt m (nI t) from ⟨t, by omega, rfl⟩), if_pos (show (0 : Int32) ≤ nI t from Int32.not_lt.mp (nI_pos (by omega))), show (28 : Int32) + nI t = nI (28 + t) from nI_add 28 t, zg_k _ ht8, zg_k _ (show 28 + t < 120 by omega), zn_k (show t < 2 ^ 31 by omega), zn_k (show 28 + t < 2 ^ 31 by omega), show I 3 t = _ from h.1.kind ht8, ex, (under_eq x hx c hc).1]
    rcases (under_eq x hx c hc).2 with q | q
    · rw [q, zb_s, if_pos rfl, zb_s, if_pos rfl]
      exact fin_leaf h 2
    · rw [q, zb_s, if_neg (by decide), zb_s, if_neg (by decide)]
      exact ⟨_, _, _, rfl, rfl, h, zO7.rf, zO8.rf⟩
theorem zRel_tape {I J I' J' : zI} (h : zRel I J) (ht : zRt I' J') (hI : ∀ c, c < 33 ∨ 37 < c → I' c = I c) (hJ : ∀ c s, c ≠ 54 → ¬ (c = 50 ∧ s = 5) → J' c s = J c s) : zRel I' J' := by
  have hj : ∀ c, c ≠ 54 → c ≠ 50 → J' c = J c := fun c h1 h2 => funext (fun s => hJ c s h1 (fun q => h2 q.1))
  obtain ⟨hw, hkk, _, hf, hs⟩ := h
  refine ⟨zRw_congr hw (fun c h1 h2 => hI c (by omega)) (hj 51 (by decide) (by decide)), ?_, ht, ?_, ?_⟩
  · obtain ⟨a, b, c⟩ := hkk
    unfold zRk
    rw [hI 0 (by omega), hJ 50 3 (by decide) (by decide), hj 52 (by decide) (by decide)]
    refine ⟨a, b, fun q2 => ⟨fun k2 hk2 => ?_, (c q2).2⟩⟩
    rw [← (c q2).1 k2 hk2]
    unfold rW
    have := zcm_range (w := 10) hk2
    rw [hI _ (by omega)]
  · intro k hk
    rw [hI 41 (by omega), hj 55 (by decide) (by decide)]; exact hf k hk
  · intro s hs4
    rw [hI (42 + 2 * s) (by omega), hI (43 + 2 * s) (by omega), hj 58 (by decide) (by decide), hj 59 (by decide) (by decide), hj 60 (by decide) (by decide)]
    exact hs s hs4
theorem q_wipe (I J : zI) (h : zRel I J) : ∃ r I' J', fX7_wipe I = some (r, I') ∧ fX8_wipe J = some (r, J') ∧ zRel I' J' ∧ zO7 I I' ∧ zO8 J J' := by
  unfold fX7_wipe fX8_wipe
  rw [zl_s, zl_s, zl_s, zl_s, h.2.2.1.1]
  refine ⟨_, _, _, rfl, rfl, zRel_tape h ⟨by rw [zup_s, zup_s], by rw [zup_s]; exact ⟨0, by decide, rfl⟩, fun k hk => ?_⟩ (fun c hc => zup_ne (by omega)) (fun c s h1 h2 => zup_r (by omega)), zO7.up (by omega), zO8.up (by omega)⟩
  rw [zup_ne (by omega), zup_ne (by omega)]
  exact h.2.2.1.2.2 k hk
