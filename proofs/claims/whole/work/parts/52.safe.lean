/-! safe -/
/-- one brings a thing to room r by one CARRY or REACH -/
def zHt (S : Nat → Int32) (i t r : Nat) : Prop := (zn (S (36 + t)) = zn (S (52 + i)) % 8 ∧ zlg S i t (zn (S (52 + i)) / 8) ∧ zop S (zn (S (52 + i)) % 8) r) ∨ (zRc S i t (zn (S (52 + i))) (zn (S 8)) ∧ ¬ zn (S (36 + t)) = r)
theorem sh_bit : ∀ f : Nat, f < 8 → ∀ i : Nat, i < 32 → bt (zshl 1 (nI f)) i = decide (i = f) := by decide +kernel
theorem nI_bit {d i : Nat} (hi : i < 32) : bt (nI d) i = d.testBit i := by
  show (BitVec.ofNat 32 d).getLsbD i = _
  rw [BitVec.getLsbD_ofNat, decide_eq_true hi, Bool.true_and]
theorem hit6 {i t : Nat} {I J : zI} (h : zRel I J) (hi : i < 4) (ht : t < 8) : ∃ v : Int32, fX6_roomsHitBy 1 (nI i) (nI t) I = some v ∧ ∀ r : Nat, r < 8 → (bt v r = true ↔ zHt (J 51) i t r) := by
  obtain ⟨p, hp, ep⟩ := h.wf.place hi
  obtain ⟨f, hf, ef⟩ := h.wf.room ht
  obtain ⟨s, hs8, hs⟩ := h.wf.small
  have e6 : I (1 + 5) i = nI p := (h.1.place hi).trans ep
  obtain ⟨d, hd, ed⟩ := h.wf.door (show p % 8 < 8 by omega)
  have zp1 : zn (J 51 (52 + i)) = p := by rw [ep]; exact zn_k (by omega)
  have zf1 : zn (J 51 (36 + t)) = f := by rw [ef]; exact zn_k (by omega)
  have zs1 : zn (J 51 8) = s := by rw [hs]; exact zn_k (by omega)
  unfold fX6_roomsHitBy zHt
  rw [zp1, zf1, zs1, canCarry6 h.1 hi ht hp ep hf ef, canReach6 h.1 hi ht hp ep hs8 hs, room6 hi hp e6, zb_s, zif, zb_s, zg_k _ (show p % 8 < 8 by omega), zn_k (show p % 8 < 2 ^ 31 by omega), show I (1 + 1) (p % 8) = nI d from (h.1.door (by omega)).trans ed, zl_s, Int32.zero_or]
  obtain ⟨x, hx, bx⟩ : ∃ x : Int32, zite (f = p % 8 ∧ zlg (J 51) i t (p / 8)) (some (nI d)) (some 0) = some x ∧ ∀ r : Nat, r < 8 → (bt x r = true ↔ f = p % 8 ∧ zlg (J 51) i t (p / 8) ∧ zop (J 51) (p % 8) r) := by
    by_cases q : f = p % 8 ∧ zlg (J 51) i t (p / 8)
    · rw [zite_t q]
      refine ⟨_, rfl, fun r hr => ?_⟩
      rw [nI_bit (by omega), zop_bit hd hr ed]
      exact ⟨fun z => ⟨q.1, q.2, z⟩, fun z => z.2.2⟩
    · rw [zite_f q]
      refine ⟨_, rfl, fun r hr => ?_⟩
      rw [b_0]
      exact ⟨fun z => absurd z (by decide), fun z => absurd ⟨z.1, z.2.1⟩ q⟩
  rw [hx, zb_s, zb_s, zif, zg_k _ ht, zn_k (show t < 2 ^ 31 by omega), show I (1 + 3) t = nI f from (h.1.room ht).trans ef, zl_s]
  by_cases q : p % 8 = s ∧ p / 8 < 4 ∧ ¬ J 51 (56 + i) < zheft (J 51 (28 + t)) (J 51 (44 + t)) (nI (p / 8 + 1))
  · rw [zite_t q]
    refine ⟨_, rfl, fun r hr => ?_⟩
    rw [b_or, b_xor, sh_bit f hf r (by omega), b_m1 r (by omega), Bool.or_eq_true, bx r hr]
    by_cases z : r = f
    · rw [decide_eq_true z]
      exact ⟨fun y => y.elim Or.inl (fun y => absurd y (by decide)), fun y => y.elim Or.inl (fun y => absurd z.symm y.2)⟩
    · rw [decide_eq_false z]
      exact ⟨fun y => y.elim Or.inl (fun _ => Or.inr ⟨q, fun y => z y.symm⟩), fun y => y.elim Or.inl (fun _ => Or.inr rfl)⟩
  · rw [zite_f q]
    refine ⟨_, rfl, fun r hr => ?_⟩
    rw [bx r hr]
    exact ⟨Or.inl, fun y => y.elim id (fun y => absurd y.1 q)⟩
theorem struck7 {m n : Nat} {I J : zI} (h : zRel I J) (hm : m < 5) (e7 : I 1 8 = nI m) (hn : n < 9) (t7 : I 1 4 = nI n) : ∃ v : Int32, zit (gX7_safe_4 1000 I) 1000 (0, 0) = some v ∧ ∀ r : Nat, r < 8 → (bt v r = true ↔ ∃ i : Nat, i < m ∧ ∃ t : Nat, t < n ∧ zHt (J 51) i t r) := by
  have inner : ∀ (i : Nat) (v c : Int32) (P : Nat → Prop), i < m → (∀ r : Nat, r < 8 → (bt v r = true ↔ P r)) → ∃ u : Int32, zit (gX7_safe_17 I (c, nI i)) 1000 (v, 0) = some u ∧ ∀ r : Nat, r < 8 → (bt u r = true ↔ P r ∨ ∃ t : Nat, t < n ∧ zHt (J 51) i t r) := by
    intro i v c P hi hv
    refine zit_one (g := gX7_safe_17 I (c, nI i)) (fun k y => ∃ (j : Nat) (b : Int32), j ≤ n ∧ k = n - j ∧ y = (b, nI j) ∧ ∀ r : Nat, r < 8 → (bt b r = true ↔ P r ∨ ∃ t : Nat, t < j ∧ zHt (J 51) i t r)) (fun u : Int32 => ∀ r : Nat, r < 8 → (bt u r = true ↔ P r ∨ ∃ t : Nat, t < n ∧ zHt (J 51) i t r)) ?_ 1000 n (v, 0) ⟨0, v, by omega, by omega, rfl, fun r hr => (hv r hr).trans ⟨Or.inl, fun z => z.elim id (fun ⟨t, ht, _⟩ => absurd ht (by omega))⟩⟩ (by omega)
    rintro k y ⟨j, b, hj, rfl, rfl, hb⟩
    unfold gX7_safe_17
    dsimp only
    simp only [t7]
    by_cases q : j = n
    · subst q
      right
      rw [if_pos (Int32.le_refl _)]
      exact ⟨b, rfl, hb⟩
    left
    obtain ⟨x, x1, x2⟩ := hit6 h (show i < 4 by omega) (show j < 8 by omega)
    rw [if_neg (zz_nle (by omega) (by omega)), x1, zb_s, zl_s, zl_s, nI_1]
    refine ⟨_, n - (j + 1), rfl, by omega, j + 1, _, by omega, rfl, rfl, fun r hr => ?_⟩
    rw [b_or, Bool.or_eq_true, hb r hr, x2 r hr]
    constructor
    · rintro ((z | ⟨t, ht, z⟩) | z)
      · exact Or.inl z
      · exact Or.inr ⟨t, by omega, z⟩
      · exact Or.inr ⟨j, by omega, z⟩
    · rintro (z | ⟨t, ht, z⟩)
      · exact Or.inl (Or.inl z)
      · by_cases y : t = j
        · subst y; exact Or.inr z
        · exact Or.inl (Or.inr ⟨t, by omega, z⟩)
  refine zit_one (g := gX7_safe_4 1000 I) (fun k y => ∃ (j : Nat) (b : Int32), j ≤ m ∧ k = m - j ∧ y = (b, nI j) ∧ ∀ r : Nat, r < 8 → (bt b r = true ↔ ∃ i : Nat, i < j ∧ ∃ t : Nat, t < n ∧ zHt (J 51) i t r)) (fun u : Int32 => ∀ r : Nat, r < 8 → (bt u r = true ↔ ∃ i : Nat, i < m ∧ ∃ t : Nat, t < n ∧ zHt (J 51) i t r)) ?_ 1000 m (0, 0) ⟨0, 0, by omega, by omega, rfl, fun r hr => by
    rw [b_0]
    exact ⟨fun z => absurd z (by decide), fun ⟨i, hi, _⟩ => absurd hi (by omega)⟩⟩ (by omega)
  rintro k y ⟨j, b, hj, rfl, rfl, hb⟩
  unfold gX7_safe_4
  dsimp only
  simp only [e7]
  by_cases q : j = m
  · subst q
    right
    rw [if_pos (Int32.le_refl _)]
    exact ⟨b, rfl, hb⟩
  left
  obtain ⟨u, u1, u2⟩ := inner j b b _ (show j < m by omega) hb
  rw [if_neg (zz_nle (by omega) (by omega)), u1, zb_s, zl_s, nI_1]
  refine ⟨_, m - (j + 1), rfl, by omega, j + 1, u, by omega, rfl, rfl, fun r hr => (u2 r hr).trans ?_⟩
  constructor
  · rintro (⟨i, hi, z⟩ | z)
    · exact ⟨i, by omega, z⟩
    · exact ⟨j, by omega, z⟩
  · rintro ⟨i, hi, z⟩
    by_cases y : i = j
    · subst y; exact Or.inr z
    · exact Or.inl ⟨i, by omega, z⟩
theorem safe8 {m n r : Nat} {J : zI} (hF : zWF (J 51)) (hm : m < 5) (e8 : J 51 12 = nI m) (hn : n < 9) (t8 : J 51 11 = nI n) (hr : r < 8) : fX8_isSafe 1000 (nI r) J = some (zp (¬ ∃ i : Nat, i < m ∧ ∃ t : Nat, t < n ∧ zHt (J 51) i t r)) := by
  have g11 : ∀ {α : Type} (t : Option α), zg 11 120 t = t := fun t => zg_k (i := 11) t (by decide)
  have g12 : ∀ {α : Type} (t : Option α), zg 12 120 t = t := fun t => zg_k (i := 12) t (by decide)
  have n11 : zn 11 = 11 := rfl
  have n12 : zn 12 = 12 := rfl
  obtain ⟨s, hs8, hs⟩ := hF.small
  have zs1 : zn (J 51 8) = s := by rw [hs]; exact zn_k (by omega)
  have inner : ∀ i : Nat, i < m → ∃ u, zit (gX8_isSafe_15 (nI r) J (nI i)) 1000 0 = some u ∧ ((u = .inr () ∧ ∀ t : Nat, t < n → ¬ zHt (J 51) i t r) ∨ (u = .inl (.inr (.inl 0)) ∧ ∃ t : Nat, t < n ∧ zHt (J 51) i t r)) := by
    intro i hi
    have hi4 : i < 4 := by omega
    obtain ⟨p, hp, ep⟩ := hF.place hi4
    have zp1 : zn (J 51 (52 + i)) = p := by rw [ep]; exact zn_k (by omega)
    refine zit_one (g := gX8_isSafe_15 (nI r) J (nI i)) (fun k y => ∃ j : Nat, j ≤ n ∧ k = n - j ∧ y = nI j ∧ ∀ t : Nat, t < j → ¬ zHt (J 51) i t r) (fun u => (u = .inr () ∧ ∀ t : Nat, t < n → ¬ zHt (J 51) i t r) ∨ (u = .inl (.inr (.inl 0)) ∧ ∃ t : Nat, t < n ∧ zHt (J 51) i t r)) ?_ 1000 n 0 ⟨0, by omega, by omega, rfl, fun t ht => absurd ht (by omega)⟩ (by omega)
    rintro k y ⟨j, hj, rfl, rfl, hb⟩
    unfold gX8_isSafe_15
    simp only [g11, n11, t8]
    by_cases q : j = n
    · subst q
      right
      rw [if_pos (Int32.le_refl _)]
      exact ⟨_, rfl, Or.inl ⟨rfl, hb⟩⟩
    have hj8 : j < 8 := by omega
    obtain ⟨f, hf, ef⟩ := hF.room hj8
    have zf1 : zn (J 51 (36 + j)) = f := by rw [ef]; exact zn_k (by omega)
    rw [if_neg (zz_nle (by omega) (by omega)), canCarry8 hi4 hj8 hp ep hf ef, canReach8 hi4 hj8 hp ep hs8 hs hf ef hr, zb_s, zb_s, zif, zif, zl_s, nI_1]
    have hit : zHt (J 51) i j r ↔ (f = p % 8 ∧ zop (J 51) (p % 8) r ∧ zlg (J 51) i j (p / 8)) ∨ (p % 8 = s ∧ p / 8 < 4 ∧ ¬ f = r ∧ ¬ J 51 (56 + i) < zheft (J 51 (28 + j)) (J 51 (44 + j)) (nI (p / 8 + 1))) := by
      unfold zHt zRc
      rw [zp1, zf1, zs1]
      constructor
      · rintro (⟨a, b, c⟩ | ⟨⟨a, b, c⟩, d⟩)
        · exact Or.inl ⟨a, c, b⟩
        · exact Or.inr ⟨a, b, d, c⟩
      · rintro (⟨a, b, c⟩ | ⟨a, b, c, d⟩)
        · exact Or.inl ⟨a, c, b⟩
        · exact Or.inr ⟨⟨a, b, d⟩, c⟩
    by_cases z1 : f = p % 8 ∧ zop (J 51) (p % 8) r ∧ zlg (J 51) i j (p / 8)
    · right
      rw [zite_t z1]
      exact ⟨_, rfl, Or.inr ⟨rfl, j, by omega, hit.mpr (Or.inl z1)⟩⟩
    · rw [zite_f z1]
      by_cases z2 : p % 8 = s ∧ p / 8 < 4 ∧ ¬ f = r ∧ ¬ J 51 (56 + i) < zheft (J 51 (28 + j)) (J 51 (44 + j)) (nI (p / 8 + 1))
      · right
        rw [zite_t z2]
        exact ⟨_, rfl, Or.inr ⟨rfl, j, by omega, hit.mpr (Or.inr z2)⟩⟩
      · left
        rw [zite_f z2]
        refine ⟨_, n - (j + 1), rfl, by omega, j + 1, by omega, rfl, rfl, fun t ht z => ?_⟩
        by_cases y : t = j
        · subst y; exact (hit.mp z).elim z1 z2
        · exact hb t (by omega) z
  obtain ⟨u, u1, u2⟩ := zit_one (g := gX8_isSafe_2 1000 (nI r) J) (fun k y => ∃ j : Nat, j ≤ m ∧ k = m - j ∧ y = nI j ∧ ∀ i : Nat, i < j → ∀ t : Nat, t < n → ¬ zHt (J 51) i t r) (fun u : Int32 ⊕ Unit => (u = .inr () ∧ ∀ i : Nat, i < m → ∀ t : Nat, t < n → ¬ zHt (J 51) i t r) ∨ (u = .inl 0 ∧ ∃ i : Nat, i < m ∧ ∃ t : Nat, t < n ∧ zHt (J 51) i t r)) (by
    rintro k y ⟨j, hj, rfl, rfl, hb⟩
    unfold gX8_isSafe_2
    simp only [g12, n12, e8]
    by_cases q : j = m
    · subst q
      right
      rw [if_pos (Int32.le_refl _)]
      exact ⟨_, rfl, Or.inl ⟨rfl, hb⟩⟩
    obtain ⟨u, u1, u2⟩ := inner j (by omega)
    rw [if_neg (zz_nle (by omega) (by omega)), u1]
    rcases u2 with ⟨rfl, z⟩ | ⟨rfl, z⟩
    · left
      rw [zbs_r, zl_s, nI_1]
      refine ⟨_, m - (j + 1), rfl, by omega, j + 1, by omega, rfl, rfl, fun i hi t ht => ?_⟩
      by_cases y : i = j
      · subst y; exact z t ht
      · exact hb i (by omega) t ht
    · right
      rw [zbs_l]
      exact ⟨_, rfl, Or.inr ⟨rfl, j, by omega, z⟩⟩) 1000 m 0 ⟨0, by omega, by omega, rfl, fun i hi => absurd hi (by omega)⟩ (by omega)
  unfold fX8_isSafe
  rw [u1]
  rcases u2 with ⟨rfl, z⟩ | ⟨rfl, z⟩
  · rw [zbs_r, zp_t (fun ⟨i, hi, t, ht, y⟩ => z i hi t ht y)]
  · rw [zbs_l, zp_f (fun y => y z)]
theorem q_safe (I J : zI) (h : zRel I J) : ∃ r : Int32, fX7_safe 1000 I = some r ∧ fX8_safe 1000 J = some r := by
  obtain ⟨m, hm, e8, e7⟩ := h.folk
  obtain ⟨n, hn, t8, t7⟩ := h.many
  obtain ⟨v, v1, v2⟩ := struck7 h hm e7 hn t7
  obtain ⟨u, u1, u2⟩ := zit_one (g := gX8_safe_4 1000 J) (fun k y => ∃ (j : Nat) (b : Int32), j ≤ 8 ∧ k = 8 - j ∧ y = (b, nI j) ∧ ∀ r : Nat, r < 32 → (bt b r = true ↔ r < j ∧ ¬ ∃ i : Nat, i < m ∧ ∃ t : Nat, t < n ∧ zHt (J 51) i t r)) (fun u : Int32 => ∀ r : Nat, r < 32 → (bt u r = true ↔ r < 8 ∧ ¬ ∃ i : Nat, i < m ∧ ∃ t : Nat, t < n ∧ zHt (J 51) i t r)) (by
    rintro k y ⟨j, b, hj, rfl, rfl, hb⟩
    unfold gX8_safe_4
    dsimp only
    by_cases q : j = 8
    · subst q
      right
      rw [if_pos (show (8 : Int32) ≤ nI 8 from Int32.le_refl _)]
      exact ⟨b, rfl, hb⟩
    left
    have hj8 : j < 8 := by omega
    rw [if_neg (show ¬ (8 : Int32) ≤ nI j from zz_nle (b := 8) (by omega) hj8), safe8 h.wf hm e8 hn t8 hj8, zb_s, zif, nI_1]
    by_cases z : ¬ ∃ i : Nat, i < m ∧ ∃ t : Nat, t < n ∧ zHt (J 51) i t j
    · rw [zite_t z, zl_s, zl_s]
      refine ⟨_, 8 - (j + 1), rfl, by omega, j + 1, _, by omega, rfl, rfl, fun r hr => ?_⟩
      rw [b_or, Bool.or_eq_true, hb r hr, sh_bit j hj8 r hr, decide_eq_true_eq]
      constructor
      · rintro (⟨a, c⟩ | a)
        · exact ⟨by omega, c⟩
        · subst a; exact ⟨by omega, z⟩
      · rintro ⟨a, c⟩
        by_cases y : r = j
        · exact Or.inr y
        · exact Or.inl ⟨by omega, c⟩
    · rw [zite_f z, zl_s, zl_s, Int32.or_zero]
      refine ⟨_, 8 - (j + 1), rfl, by omega, j + 1, b, by omega, rfl, rfl, fun r hr => ?_⟩
      rw [hb r hr]
      constructor
      · rintro ⟨a, c⟩
        exact ⟨by omega, c⟩
      · rintro ⟨a, c⟩
        by_cases y : r = j
        · subst y; exact absurd c z
        · exact ⟨by omega, c⟩) 1000 8 (0, 0) ⟨0, 0, by omega, rfl, rfl, fun r hr => by
    rw [b_0]
    exact ⟨fun z => absurd z (by decide), fun z => absurd z.1 (by omega)⟩⟩ (by omega)
  unfold fX7_safe fX8_safe
  rw [v1, u1, zb_s, zb_s]
  refine ⟨u, ?_, rfl⟩
  congr 1
  apply b_ext
  intro r hr
  rw [b_and, b_xor, b_m1 r hr, b_255]
  have e2 := u2 r hr
  by_cases z : r < 8
  · have e1 := v2 r z
    rw [decide_eq_true z, Bool.and_true]
    cases x : bt v r
    · exact (e2.mpr ⟨z, fun y => absurd (e1.mpr y) (by rw [x]; decide)⟩).symm
    · cases y : bt u r
      · rfl
      · exact absurd (e1.mp x) (e2.mp y).2
  · rw [decide_eq_false z, Bool.and_false]
    cases y : bt u r
    · rfl
    · exact absurd (e2.mp y).1 z
