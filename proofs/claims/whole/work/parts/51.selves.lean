/-! selves, agree, safe (the rows bt, b_ .. are out of kit/laws/BITS.to-paste) -/
def bt (x : Int32) (i : Nat) : Bool := x.toBitVec.getLsbD i
theorem b_ext {x y : Int32} (h : ∀ i, i < 32 → bt x i = bt y i) : x = y := Int32.toBitVec_inj.mp (BitVec.eq_of_getLsbD_eq (fun i hi => h i hi))
theorem b_or (x y : Int32) (i : Nat) : bt (x ||| y) i = (bt x i || bt y i) := by unfold bt; rw [Int32.toBitVec_or, BitVec.getLsbD_or]
theorem b_and (x y : Int32) (i : Nat) : bt (x &&& y) i = (bt x i && bt y i) := by unfold bt; rw [Int32.toBitVec_and, BitVec.getLsbD_and]
theorem b_xor (x y : Int32) (i : Nat) : bt (x ^^^ y) i = (bt x i ^^ bt y i) := by unfold bt; rw [Int32.toBitVec_xor, BitVec.getLsbD_xor]
theorem b_big {x : Int32} {i : Nat} (h : 32 ≤ i) : bt x i = false := BitVec.getLsbD_of_ge _ _ h
theorem b_255 (i : Nat) : bt 255 i = decide (i < 8) := by
  rcases Nat.lt_or_ge i 32 with h | h
  · exact (by decide +kernel : ∀ i, i < 32 → bt 255 i = decide (i < 8)) i h
  · rw [b_big h, decide_eq_false (by omega)]
theorem b_65535 (i : Nat) : bt 65535 i = decide (i < 16) := by
  rcases Nat.lt_or_ge i 32 with h | h
  · exact (by decide +kernel : ∀ i, i < 32 → bt 65535 i = decide (i < 16)) i h
  · rw [b_big h, decide_eq_false (by omega)]
theorem b_m1 : ∀ i, i < 32 → bt (-1) i = true := by decide +kernel
theorem b_0 (i : Nat) : bt 0 i = false := BitVec.getLsbD_zero
theorem s_l : ∀ n, n < 32 → ((nI n &&& 31).toBitVec.smod 32).toNat = n := by decide +kernel
theorem s_u : ∀ n, n < 32 → (((nI n).toUInt32 &&& Int32.toUInt32 31).toBitVec % 32).toNat = n := by decide +kernel
theorem b_shl (n : Nat) (hn : n < 32) (x : Int32) {i : Nat} (hi : i < 32) : bt (x <<< (nI n &&& 31)) i = (decide (n ≤ i) && bt x (i - n)) := by
  unfold bt
  rw [Int32.toBitVec_shiftLeft]
  show (x.toBitVec <<< ((nI n &&& 31).toBitVec.smod 32).toNat).getLsbD i = _
  rw [s_l n hn, BitVec.getLsbD_shiftLeft]
  rcases Nat.lt_or_ge i n with h | h
  · simp [h, Nat.not_le.mpr h]
  · simp [hi, h, Nat.not_lt.mpr h]
theorem b_ushr (n : Nat) (hn : n < 32) (x : Int32) (i : Nat) : bt ((x.toUInt32 >>> ((nI n).toUInt32 &&& Int32.toUInt32 31)).toInt32) i = bt x (n + i) := by
  show (x.toUInt32 >>> ((nI n).toUInt32 &&& Int32.toUInt32 31)).toBitVec.getLsbD i = x.toUInt32.toBitVec.getLsbD (n + i)
  rw [UInt32.toBitVec_shiftRight]
  show (x.toUInt32.toBitVec >>> (((nI n).toUInt32 &&& Int32.toUInt32 31).toBitVec % 32).toNat).getLsbD i = _
  rw [s_u n hn, BitVec.getLsbD_ushiftRight]
theorem b_sshr (n : Nat) (hn : n < 32) (x : Int32) {i : Nat} (hi : i < 32) : bt (x >>> (nI n &&& 31)) i = if n + i < 32 then bt x (n + i) else bt x 31 := by
  unfold bt
  rw [Int32.toBitVec_shiftRight]
  show (x.toBitVec.sshiftRight ((nI n &&& 31).toBitVec.smod 32).toNat).getLsbD i = _
  rw [s_l n hn, BitVec.getLsbD_sshiftRight, BitVec.msb_eq_getLsbD_last]
  simp [hi]
theorem canCarry6 {w p f t i : Nat} {I J : zI} (h : zRw w I J) (hi : i < 4) (ht : t < 8) (hp : p < 40) (ep : J 51 (52 + i) = nI p) (hf : f < 8) (ef : J 51 (36 + t) = nI f) : fX6_canCarry w (nI i) (nI t) I = some (zp (f = p % 8 ∧ zlg (J 51) i t (p / 8))) := by
  have e6 : I (w + 5) i = nI p := (h.place hi).trans ep
  unfold fX6_canCarry zlg
  rw [zg_k _ ht, zn_k (show t < 2 ^ 31 by omega), room6 hi hp e6, level6 hi hp e6, zb_s, zb_s, weight6 h ht, zb_s, zg_k _ hi, zn_k (show i < 2 ^ 31 by omega), h.strength hi, h.room ht, ef]
  by_cases q : f = p % 8
  · rw [if_pos (show nI f = nI (p % 8) by rw [q])]
    by_cases q3 : J 51 (56 + i) < zheft (J 51 (28 + t)) (J 51 (44 + t)) (nI (p / 8))
    · rw [if_pos q3, zp_f (fun z => z.2 q3)]
    · rw [if_neg q3, zp_t ⟨q, q3⟩]
  · rw [if_neg (fun z => q ((nI_eq (by omega) (by omega)).mp z)), zp_f (fun z => q z.1)]
theorem canCarry8 {p f t i r : Nat} {J : zI} (hi : i < 4) (ht : t < 8) (hp : p < 40) (ep : J 51 (52 + i) = nI p) (hf : f < 8) (ef : J 51 (36 + t) = nI f) : fX8_canCarry (nI i) (nI t) (nI r) J = some (zp (f = p % 8 ∧ zop (J 51) (p % 8) r ∧ zlg (J 51) i t (p / 8))) := by
  unfold fX8_canCarry fX8_canWalk zlg zop
  rw [show (36 : Int32) + nI t = nI (36 + t) from nI_add 36 t, show (56 : Int32) + nI i = nI (56 + i) from nI_add 56 i, zg_k _ (show 36 + t < 120 by omega)]
  simp only [zg_k _ (show 56 + i < 120 by omega), zn_k (show 36 + t < 2 ^ 31 by omega), zn_k (show 56 + i < 2 ^ 31 by omega), roomOf8 hi hp ep, level8 hi hp ep, zb_s, isOpen8 (J := J) (show p % 8 < 8 by omega), zgb_p, weighs8 ht, zif, ef]
  by_cases q : f = p % 8
  · rw [if_pos (show nI f = nI (p % 8) by rw [q])]
    by_cases q2 : zshr (J 51 (p % 8)) (nI r) &&& 1 = 1
    · rw [zite_t q2]
      by_cases q3 : J 51 (56 + i) < zheft (J 51 (28 + t)) (J 51 (44 + t)) (nI (p / 8))
      · rw [if_pos q3, zp_f (fun z => z.2.2 q3)]
      · rw [if_neg q3, zp_t ⟨q, q2, q3⟩]
    · rw [zite_f q2, zp_f (fun z => q2 z.2.1)]
  · rw [if_neg (fun z => q ((nI_eq (by omega) (by omega)).mp z)), zp_f (fun z => q z.1)]
theorem q_selves (I J : zI) (h : zRel I J) : ∃ r : Int32, fX7_selves 1000 I = some r ∧ fX8_selves 1000 J = some r := by
  obtain ⟨m, hm, e8, e7⟩ := h.folk
  obtain ⟨n, hn, t8, t7⟩ := h.many
  obtain ⟨s, hs8, hs⟩ := h.wf.small
  have g11 : ∀ {α : Type} (t : Option α), zg 11 120 t = t := fun t => zg_k (i := 11) t (by decide)
  have g12 : ∀ {α : Type} (t : Option α), zg 12 120 t = t := fun t => zg_k (i := 12) t (by decide)
  have n11 : zn 11 = 11 := rfl
  have n12 : zn 12 = 12 := rfl
  have inner : ∀ i : Nat, i < m → ∀ v c d : Int32, ∃ r : Int32, zit (gX7_selves_17 I (c, nI i)) 1000 (v, 0) = some r ∧ zit (gX8_selves_17 J (d, nI i)) 1000 (v, 0) = some r := by
    intro i hi v c d
    have hi4 : i < 4 := by omega
    obtain ⟨p, hp, ep⟩ := h.wf.place hi4
    obtain ⟨r, u, e1, e2, e3⟩ := zit_rel (g := gX7_selves_17 I (c, nI i)) (f := gX8_selves_17 J (d, nI i)) (fun k x y => ∃ (j : Nat) (b : Int32), j ≤ n ∧ k = n - j ∧ x = (b, nI j) ∧ y = (b, nI j)) (fun r u => r = u) (by
      rintro k x y ⟨j, b, hj, rfl, rfl, rfl⟩
      unfold gX7_selves_17 gX8_selves_17
      dsimp only
      simp only [g11, n11, t7, t8]
      by_cases q : j = n
      · subst q
        right
        rw [if_pos (Int32.le_refl _), if_pos (Int32.le_refl _)]
        exact ⟨_, _, rfl, rfl, rfl⟩
      left
      have hj8 : j < 8 := by omega
      obtain ⟨f, hf, ef⟩ := h.wf.room hj8
      rw [if_neg (zz_nle (by omega) (by omega)), if_neg (zz_nle (by omega) (by omega)), roomOf8 hi4 hp ep, zb_s, canReach6 h.1 hi4 hj8 hp ep hs8 hs, canReach8 hi4 hj8 hp ep hs8 hs hf ef (show p % 8 < 8 by omega), zb_s, zb_s, zif, zif, zg_k _ hj8, zn_k (show j < 2 ^ 31 by omega), show I 4 j = nI f from (h.1.room hj8).trans ef, show I 1 1 = nI s from h.1.small.trans hs]
      simp only [zl_s, nI_1, Int32.or_zero]
      by_cases z : p % 8 = s ∧ p / 8 < 4 ∧ ¬ J 51 (56 + i) < zheft (J 51 (28 + j)) (J 51 (44 + j)) (nI (p / 8 + 1))
      · rw [zite_t z]
        by_cases zf : f = s
        · rw [if_pos (show nI f = nI s by rw [zf]), zite_f (fun y => y.2.2.1 (zf.trans z.1.symm))]
          exact ⟨_, _, n - (j + 1), rfl, rfl, by omega, j + 1, b, by omega, rfl, rfl, rfl⟩
        · rw [if_neg (fun y => zf ((nI_eq (by omega) (by omega)).mp y)), zite_t ⟨z.1, z.2.1, fun y => zf (y.trans z.1), z.2.2⟩]
          exact ⟨_, _, n - (j + 1), rfl, rfl, by omega, j + 1, _, by omega, rfl, rfl, rfl⟩
      · rw [zite_f z, zite_f (fun y => z ⟨y.1, y.2.1, y.2.2.2⟩)]
        exact ⟨_, _, n - (j + 1), rfl, rfl, by omega, j + 1, b, by omega, rfl, rfl, rfl⟩) 1000 n (v, 0) (v, 0) ⟨0, v, by omega, rfl, rfl, rfl⟩ (by omega)
    subst e3
    exact ⟨r, e1, e2⟩
  obtain ⟨r, u, e1, e2, e3⟩ := zit_rel (g := gX7_selves_4 1000 I) (f := gX8_selves_4 1000 J) (fun k x y => ∃ (j : Nat) (b : Int32), j ≤ m ∧ k = m - j ∧ x = (b, nI j) ∧ y = (b, nI j)) (fun r u => r = u) (by
    rintro k x y ⟨j, b, hj, rfl, rfl, rfl⟩
    unfold gX7_selves_4 gX8_selves_4
    dsimp only
    simp only [g12, n12, e7, e8]
    by_cases q : j = m
    · subst q
      right
      rw [if_pos (Int32.le_refl _), if_pos (Int32.le_refl _)]
      exact ⟨_, _, rfl, rfl, rfl⟩
    left
    obtain ⟨r, a1, a2⟩ := inner j (by omega) b b b
    rw [if_neg (zz_nle (by omega) (by omega)), if_neg (zz_nle (by omega) (by omega)), a1, a2, zb_s, zl_s, nI_1]
    exact ⟨_, _, m - (j + 1), rfl, rfl, by omega, j + 1, r, by omega, rfl, rfl, rfl⟩) 1000 m (0, 0) (0, 0) ⟨0, 0, by omega, rfl, rfl, rfl⟩ (by omega)
  subst e3
  unfold fX7_selves fX8_selves
  rw [e1, e2, zb_s]
  exact ⟨r, rfl, rfl⟩
/-- whether one can REACH a thing to some other room -/
def zRc (S : Nat → Int32) (i t p s : Nat) : Prop := p % 8 = s ∧ p / 8 < 4 ∧ ¬ S (56 + i) < zheft (S (28 + t)) (S (44 + t)) (nI (p / 8 + 1))
theorem reaches8 {Y : zI} {S : Nat → Int32} {i t r p s f : Nat} {a : Int32} (hS : ∀ k : Nat, k < 120 → ¬ (36 ≤ k ∧ k < 44) → Y 51 k = S k) (hi : i < 4) (ht : t < 8) (hr : r < 8) (hp : p < 40) (ep : S (52 + i) = nI p) (hs8 : s < 8) (hs : S 8 = nI s) (hf : f < 8) (ef : Y 51 (36 + t) = nI f) (a1 : zrem a 10 = nI t) (a2 : a / 10 = nI r) : ∃ Y', fX8_reaches (nI i) a Y = some Y' ∧ (∀ c : Nat, c ≠ 51 → Y' c = Y c) ∧ (∀ k : Nat, k ≠ 36 + t → Y' 51 k = Y 51 k) ∧ Y' 51 (36 + t) = nI (zite (zRc S i t p s) r f) := by
  unfold fX8_reaches zRc
  rw [a1, a2, canReach8 hi ht hp ((hS _ (by omega) (by omega)).trans ep) hs8 ((hS 8 (by omega) (by omega)).trans hs) hf ef hr, zb_s, zif, show (36 : Int32) + nI t = nI (36 + t) from nI_add 36 t, zg_k _ (show 36 + t < 120 by omega), zn_k (show 36 + t < 2 ^ 31 by omega), zl_s, hS (56 + i) (by omega) (by omega), hS (28 + t) (by omega) (by omega), hS (44 + t) (by omega) (by omega)]
  by_cases z : p % 8 = s ∧ p / 8 < 4 ∧ ¬ S (56 + i) < zheft (S (28 + t)) (S (44 + t)) (nI (p / 8 + 1))
  · rw [zite_t z]
    by_cases zf : f = r
    · rw [zite_f (fun y => y.2.2.1 zf)]
      exact ⟨Y, rfl, fun _ _ => rfl, fun _ _ => rfl, by rw [ef, zf]⟩
    · rw [zite_t ⟨z.1, z.2.1, zf, z.2.2⟩]
      exact ⟨_, rfl, fun c hc => zup_ne hc, fun k hk => zup_r (by omega), zup_s⟩
  · rw [zite_f z, zite_f (fun y => z ⟨y.1, y.2.1, y.2.2.2⟩)]
    exact ⟨Y, rfl, fun _ _ => rfl, fun _ _ => rfl, ef⟩
theorem rt7 {a : Int32} {I : zI} {n : Nat} (h2 : I 1 4 = nI n) (hn : n < 9) : fX7_isRoomAndThing a I = some (zp (¬ a < 0 ∧ zlt 8 (a / 10) ∧ zlt n (zrem a 10))) := by
  unfold fX7_isRoomAndThing
  rw [room7, zb_s, thing7 _ h2 hn, zb_s, zif, zif]
  by_cases q1 : a < 0
  · rw [if_pos q1, zp_f (fun z => z.1 q1)]
  · rw [if_neg q1]
    by_cases q2 : zlt 8 (a / 10)
    · rw [zite_t q2]
      by_cases q3 : zlt n (zrem a 10)
      · rw [zite_t q3, zp_t ⟨q1, q2, q3⟩]
      · rw [zite_f q3, zp_f (fun z => q3 z.2.2)]
    · rw [zite_f q2, zp_f (fun z => q2 z.2.1)]
theorem rt8 {a : Int32} {J : zI} {n : Nat} (h2 : J 51 11 = nI n) (hn : n < 9) : fX8_isReach a J = some (zp (¬ a < 0 ∧ zlt 8 (a / 10) ∧ zlt n (zrem a 10))) := by
  unfold fX8_isReach
  rw [room8, zb_s, thing8 _ h2 hn, zb_s, zif, zif]
  by_cases q1 : a < 0
  · rw [if_pos q1, zp_f (fun z => z.1 q1)]
  · rw [if_neg q1]
    by_cases q3 : zlt n (zrem a 10)
    · rw [zite_t q3]
      by_cases q2 : zlt 8 (a / 10)
      · rw [zite_t q2, zp_t ⟨q1, q2, q3⟩]
      · rw [zite_f q2, zp_f (fun z => q2 z.2.1)]
    · rw [zite_f q3, zp_f (fun z => q3 z.2.2)]
theorem lays8b (Y : zI) : ∃ Z, fX8_laysBack 1000 Y = some Z ∧ (∀ c : Nat, c ≠ 51 → Z c = Y c) ∧ (∀ k : Nat, k < 120 → Z 51 k = Y 53 k) := by
  obtain ⟨J2, e, g1, g2⟩ := become8 (a := 53) (b := 51) Y
  refine ⟨J2, ?_, g1, g2 (by decide)⟩
  unfold fX8_laysBack
  rw [e, zb_s]
theorem q_agree (a b c d : Int32) (I J : zI) (h : zRel I J) : ∃ r I' J', fX7_agree a b c d I = some (r, I') ∧ fX8_agree 1000 a b c d J = some (r, J') ∧ zRel I' J' ∧ zO7 I I' ∧ zO8 J J' := by
  obtain ⟨m, hm, e8, e7⟩ := h.folk
  obtain ⟨n, hn, t8, t7⟩ := h.many
  obtain ⟨s, hs8, hs⟩ := h.wf.small
  unfold fX7_agree fX8_agree
  rw [one7 a e7 hm, one8 a e8 hm, one7 c e7 hm, one8 c e8 hm, rt7 t7 hn, rt8 t8 hn, rt7 (a := d) t7 hn, rt8 (a := d) t8 hn]
  simp only [zb_s, zif]
  by_cases ha : ¬ zlt m a
  · rw [zite_f ha, zite_f ha]; exact fin_leaf h 0
  replace ha := Classical.not_not.mp ha
  rw [zite_t ha, zite_t ha]
  by_cases hc : ¬ zlt m c
  · rw [zite_f hc, zite_f hc]; exact fin_leaf h 0
  replace hc := Classical.not_not.mp hc
  rw [zite_t hc, zite_t hc]
  by_cases hac : a = c
  · rw [if_pos hac, if_pos hac]; exact fin_leaf h 0
  rw [if_neg hac, if_neg hac]
  by_cases hb : ¬ (¬ b < 0 ∧ zlt 8 (b / 10) ∧ zlt n (zrem b 10))
  · rw [zite_f hb, zite_f hb]; exact fin_leaf h 0
  replace hb := Classical.not_not.mp hb
  rw [zite_t hb, zite_t hb]
  by_cases hd : ¬ (¬ d < 0 ∧ zlt 8 (d / 10) ∧ zlt n (zrem d 10))
  · rw [zite_f hd, zite_f hd]; exact fin_leaf h 0
  replace hd := Classical.not_not.mp hd
  rw [zite_t hd, zite_t hd]
  obtain ⟨-, ⟨r1, hr1, b1⟩, ⟨t1, ht1, b2⟩⟩ := hb
  obtain ⟨-, ⟨r2, hr2, d1⟩, ⟨t2, ht2, d2⟩⟩ := hd
  obtain ⟨i, hi, rfl⟩ := ha
  obtain ⟨k, hk, rfl⟩ := hc
  have hi4 : i < 4 := by omega
  have hk4 : k < 4 := by omega
  have h18 : t1 < 8 := by omega
  have h28 : t2 < 8 := by omega
  obtain ⟨p1, hp1, ep1⟩ := h.wf.place hi4
  obtain ⟨p2, hp2, ep2⟩ := h.wf.place hk4
  obtain ⟨f1, hf1, ef1⟩ := h.wf.room h18
  obtain ⟨f2, hf2, ef2⟩ := h.wf.room h28
  obtain ⟨X, J0, z1, z2, z3, z4, z5, z6⟩ := lend_rel h
  have lt : ∀ (P : Prop) (x y : Nat), x < 8 → y < 8 → zite P x y < 8 := fun P x y hx hy => by
    by_cases q : P
    · rw [zite_t q]; exact hx
    · rw [zite_f q]; exact hy
  have j51 : J0 51 = J 51 := z5 51 (by decide)
  -- in one order
  obtain ⟨Y1, u1, u2, u3, u4⟩ := reaches8 (Y := J0) (S := J 51) (a := b) (fun x _ _ => by rw [j51]) hi4 h18 hr1 hp1 ep1 hs8 hs hf1 (by rw [j51]; exact ef1) b2 b1
  obtain ⟨g2, hg2, eg2⟩ : ∃ g, g < 8 ∧ Y1 51 (36 + t2) = nI g ∧ g = if t2 = t1 then zite (zRc (J 51) i t1 p1 s) r1 f1 else f2 := by
    by_cases q : t2 = t1
    · rw [if_pos q, q]; exact ⟨_, lt _ _ _ hr1 hf1, u4, rfl⟩
    · rw [if_neg q]; exact ⟨f2, hf2, by rw [u3 _ (by omega), j51]; exact ef2, rfl⟩
  obtain ⟨Y2, v1, v2, v3, v4⟩ := reaches8 (Y := Y1) (S := J 51) (a := d) (fun x h1 h2 => by rw [u3 _ (by omega), j51]) hk4 h28 hr2 hp2 ep2 hs8 hs hg2 eg2.1 d2 d1
  obtain ⟨Y3, w1, w2, w3⟩ := lays8b Y2
  have y3 : ∀ x : Nat, x < 120 → Y3 51 x = J 51 x := fun x hx => by rw [w3 x hx, v2 53 (by decide), u2 53 (by decide), z6 x hx]
  -- in the other one
  obtain ⟨Y4, x1, x2, x3, x4⟩ := reaches8 (Y := Y3) (S := J 51) (a := d) (fun x hx _ => y3 x hx) hk4 h28 hr2 hp2 ep2 hs8 hs hf2 (by rw [y3 _ (by omega)]; exact ef2) d2 d1
  obtain ⟨g1, hg1, eg1⟩ : ∃ g, g < 8 ∧ Y4 51 (36 + t1) = nI g ∧ g = if t2 = t1 then zite (zRc (J 51) k t2 p2 s) r2 f2 else f1 := by
    by_cases q : t2 = t1
    · rw [if_pos q, ← q]; exact ⟨_, lt _ _ _ hr2 hf2, x4, rfl⟩
    · rw [if_neg q]; exact ⟨f1, hf1, by rw [x3 _ (by omega), y3 _ (by omega)]; exact ef1, rfl⟩
  obtain ⟨Y5, q1, q2, q3, q4⟩ := reaches8 (Y := Y4) (S := J 51) (a := b) (fun x h1 h2 => by rw [x3 _ (by omega), y3 x h1]) hi4 h18 hr1 hp1 ep1 hs8 hs hg1 eg1.1 b2 b1
  obtain ⟨J2, o1, o2, o3, o4⟩ := back_rel (X := I) (Y := Y5) h z5 z6 (fun _ _ => rfl) (fun c hc => by rw [q2 c hc, x2 c hc, w2 c hc, v2 c hc, u2 c hc])
  have ea : Y2 51 (36 + t1) = if t2 = t1 then nI (zite (zRc (J 51) k t2 p2 s) r2 g2) else nI (zite (zRc (J 51) i t1 p1 s) r1 f1) := by
    by_cases q : t2 = t1
    · rw [if_pos q, ← q]; exact v4
    · rw [if_neg q, v3 _ (by omega)]; exact u4
  have eb : Y5 51 (36 + t2) = if t2 = t1 then nI (zite (zRc (J 51) i t1 p1 s) r1 g1) else nI (zite (zRc (J 51) k t2 p2 s) r2 f2) := by
    by_cases q : t2 = t1
    · rw [if_pos q, q]; exact q4
    · rw [if_neg q, q3 _ (by omega)]; exact x4
  rw [z2, b2, b1, d2, d1]
  simp only [zb_s, zl_s]
  rw [u1]
  simp only [zb_s]
  rw [v1]
  simp only [zb_s]
  rw [w1]
  simp only [zb_s]
  rw [x1]
  simp only [zb_s]
  rw [q1]
  simp only [zb_s, zl_s, o1, show (36 : Int32) + nI t1 = nI (36 + t1) from nI_add 36 t1, show (36 : Int32) + nI t2 = nI (36 + t2) from nI_add 36 t2, zg_k _ (show 36 + t1 < 120 by omega), zg_k _ (show 36 + t2 < 120 by omega), zn_k (show 36 + t1 < 2 ^ 31 by omega), zn_k (show 36 + t2 < 2 ^ 31 by omega), canReach6 h.1 hi4 h18 hp1 ep1 hs8 hs, canReach6 h.1 hk4 h18 hp2 ep2 hs8 hs, zif]
  rw [ea, v4, q4, eb]
  by_cases q : t2 = t1
  · subst q
    rw [if_pos rfl] at eg1 eg2
    rw [if_pos (show nI t2 = nI t2 from rfl), if_pos rfl, if_pos rfl, eg1.2, eg2.2]
    have ff : f1 = f2 := (nI_eq (by omega) (by omega)).mp (ef1.symm.trans ef2)
    subst ff
    have same : ∀ x : Option (Int32 × zI), x = some (1, J2) → ∃ r I' J', some (1, I) = some (r, I') ∧ x = some (r, J') ∧ zRel I' J' ∧ zO7 I I' ∧ zO8 J J' := fun x e => ⟨_, _, _, rfl, e, o2, o3, o4⟩
    by_cases A : zRc (J 51) i t2 p1 s
    · rw [zite_t (show p1 % 8 = s ∧ _ from A), zite_t A, zite_t A]
      by_cases B : zRc (J 51) k t2 p2 s
      · rw [zite_t (show p2 % 8 = s ∧ _ from B), zite_t B]
        by_cases e : r1 = r2
        · subst e
          rw [if_pos rfl, if_pos rfl, if_pos rfl, zbs_l, zb_s, if_neg (by decide)]
          exact same _ rfl
        · have ne : ¬ nI r2 = nI r1 := fun z => e ((nI_eq (by omega) (by omega)).mp z).symm
          rw [if_neg (fun z => e ((nI_eq (by omega) (by omega)).mp z)), if_neg ne, zbs_r, zb_s, if_pos rfl]
          exact ⟨_, _, _, rfl, rfl, o2, o3, o4⟩
      · rw [zite_f (show ¬ (p2 % 8 = s ∧ _) from B), zite_f B, if_pos rfl, if_pos rfl, zbs_l, zb_s, if_neg (by decide)]
        exact same _ rfl
    · rw [zite_f (show ¬ (p1 % 8 = s ∧ _) from A), zite_f A, zite_f A, if_pos rfl, if_pos rfl, zbs_l, zb_s, if_neg (by decide)]
      exact same _ rfl
  · rw [if_neg q] at eg1 eg2
    rw [if_neg (show ¬ nI t1 = nI t2 from fun z => q ((nI_eq (by omega) (by omega)).mp z).symm), if_neg q, if_neg q, eg1.2, eg2.2, if_pos rfl, if_pos rfl, zbs_l, zb_s, if_neg (by decide)]
    exact ⟨_, _, _, rfl, rfl, o2, o3, o4⟩
