/-! what all copies weigh -/
theorem divisor8_aux : ∀ (m n a b : Nat), b < 2 ^ m → a < 2 ^ 62 → b < 2 ^ 62 → 2 * m + 1 ≤ n → zit gX8_divisor_6 n (lN a, lN b) = some (lN (Nat.gcd a b)) := by
  have st0 : ∀ (n a : Nat), zit gX8_divisor_6 (n + 1) (lN a, lN 0) = some (lN a) := by
    intro n a
    refine zit_r ?_
    unfold gX8_divisor_6
    dsimp only
    rw [if_pos (show lg_cmp (lN 0) 0 = 0 from (lg_cmp_eq _ _).mpr rfl)]
  have st1 : ∀ (n a b : Nat), 0 < b → a < 2 ^ 62 → b < 2 ^ 62 → zit gX8_divisor_6 (n + 1) (lN a, lN b) = zit gX8_divisor_6 n (lN b, lN (a % b)) := by
    intro n a b h0 ha hb
    refine zit_l ?_
    unfold gX8_divisor_6
    dsimp only
    rw [if_neg (fun q => by
      have := (pk_lEQ (a := b) (b := 0) (by omega) (by omega)).mp ((lg_cmp_eq _ _).mp q)
      omega), zdL_k _ h0 (by omega), zl_s]
    unfold zremL
    rw [pk_lRem (by omega) h0 (by omega)]
  intro m
  induction m with
  | zero =>
    intro n a b h1 h2 h3 h4
    obtain ⟨n, rfl⟩ : ∃ x, n = x + 1 := ⟨n - 1, by omega⟩
    have : b = 0 := by omega
    subst this
    rw [st0, Nat.gcd_zero_right]
  | succ m ih =>
    intro n a b h1 h2 h3 h4
    obtain ⟨n, rfl⟩ : ∃ x, n = x + 1 + 1 := ⟨n - 2, by omega⟩
    rcases Nat.eq_zero_or_pos b with q | q
    · subst q
      rw [st0, Nat.gcd_zero_right]
    · rw [st1 _ _ _ q h2 h3]
      have hr := Nat.mod_lt a q
      rcases Nat.eq_zero_or_pos (a % b) with z | z
      · rw [z, st0, Nat.gcd_comm, Nat.gcd_rec, z, Nat.gcd_zero_left]
      · rw [st1 _ _ _ z h3 (by omega)]
        have hr2 := Nat.mod_lt b z
        have hq : b % (a % b) + (a % b) ≤ b := by
          have e := Nat.div_add_mod b (a % b)
          have e2 : 0 < b / (a % b) := Nat.div_pos (by omega) z
          have e3 := Nat.mul_le_mul (Nat.le_refl (a % b)) e2
          omega
        rw [ih n (a % b) (b % (a % b)) (by rw [Nat.pow_succ] at h1; omega) (by omega) (by omega) (by omega)]
        rw [Nat.gcd_comm a b, Nat.gcd_rec b a, Nat.gcd_comm (a % b) b, Nat.gcd_comm (a % b) (b % (a % b)), ← Nat.gcd_rec (a % b) b, Nat.gcd_comm]
theorem divisor8 {a b : Nat} (ha : a < 2 ^ 62) (hb : b < 2 ^ 62) : fX8_divisor 1000 (lN a) (lN b) = some (lN (Nat.gcd a b)) := by
  unfold fX8_divisor
  rw [divisor8_aux 62 1000 a b hb ha hb (by omega), zb_s]
/-- the sums on the way: a power, above and below the line -/
def zw (g s : Nat) : Nat → Nat × Nat × Nat
  | 0 => (1, 1, 1)
  | j + 1 => ((zw g s j).1 * g, (zw g s j).2.1 * s + (zw g s j).1 * g, (zw g s j).2.2 * s)
def zwg (k : Nat) : Nat := if k % 2 = 0 then k / 2 else k
def zwh (k : Nat) : Nat := if k % 2 = 0 then 1 else 2
def zwt (k : Nat) (Z Y : Nat × Nat × Nat) : Bool := decide (0 < Z.2.2) && decide ((Z.2.1 * k + 2 * Z.2.2) / Nat.gcd (Z.2.1 * k + 2 * Z.2.2) (2 * Z.2.2) = Y.2.1) && decide ((2 * Z.2.2) / Nat.gcd (Z.2.1 * k + 2 * Z.2.2) (2 * Z.2.2) = Y.2.2)
theorem zw_tab : ∀ k : Nat, k < 10 → 0 < k → ∀ j : Nat, j < 31 → zwt k (zw (zwg k) (zwh k) j) (zw (zwg k) (zwh k) (j + 1)) = true := by decide +kernel
theorem zwt_of {k : Nat} {Z Y : Nat × Nat × Nat} (h : zwt k Z Y = true) : 0 < Z.2.2 ∧ (Z.2.1 * k + 2 * Z.2.2) / Nat.gcd (Z.2.1 * k + 2 * Z.2.2) (2 * Z.2.2) = Y.2.1 ∧ (2 * Z.2.2) / Nat.gcd (Z.2.1 * k + 2 * Z.2.2) (2 * Z.2.2) = Y.2.2 := by
  unfold zwt at h
  rw [Bool.and_eq_true, Bool.and_eq_true, decide_eq_true_eq, decide_eq_true_eq, decide_eq_true_eq] at h
  exact ⟨h.1.1, h.1.2, h.2⟩
theorem zw_le (g s : Nat) : ∀ j : Nat, (zw g s j).1 ≤ (zw g s j).2.1
  | 0 => Nat.le_refl _
  | j + 1 => Nat.le_add_left _ _
theorem zw_s (g s j : Nat) : zw g s (j + 1) = ((zw g s j).1 * g, (zw g s j).2.1 * s + (zw g s j).1 * g, (zw g s j).2.2 * s) := rfl
theorem two_l (x : Nat) : (2 : Int64) * lN x = lN (2 * x) := lN_mul 2 x
theorem wt_step {k n j : Nat} (hk9 : k < 10) (hg : zwg k ≤ 9) (hs : zwh k ≤ 2) (hjn : j < n) (hn : n < 31) {I J : zI} {Z : Nat × Nat × Nat} (t0 : 0 < Z.2.2) (t1 : (Z.2.1 * k + 2 * Z.2.2) / Nat.gcd (Z.2.1 * k + 2 * Z.2.2) (2 * Z.2.2) = Z.2.1 * zwh k + Z.1 * zwg k) (t2 : (2 * Z.2.2) / Nat.gcd (Z.2.1 * k + 2 * Z.2.2) (2 * Z.2.2) = Z.2.2 * zwh k) (h1 : Z.2.1 ≤ 1000000000000) (h2 : Z.2.2 ≤ 1000000000000) (h3 : Z.1 ≤ Z.2.1) : (∃ T B : Nat, T = Z.2.1 * zwh k + Z.1 * zwg k ∧ B = Z.2.2 * zwh k ∧ T ≤ 1000000000000 ∧ B ≤ 1000000000000 ∧ gX7_weight_81 (nI n) I (lN (zwg k)) (lN (zwh k)) (lN Z.1, lN Z.2.1, lN Z.2.2, nI j) = some (.inl (lN (Z.1 * zwg k), lN T, lN B, nI (j + 1))) ∧ gX8_weight_36 1000 (nI k) (nI n) J (lN Z.2.1, lN Z.2.2, nI (j + 1)) = some (.inl (lN T, lN B, nI (j + 1 + 1)))) ∨ (gX7_weight_81 (nI n) I (lN (zwg k)) (lN (zwh k)) (lN Z.1, lN Z.2.1, lN Z.2.2, nI j) = some (.inr (.inl ((-1000007 : Int32).toInt64, zup I 41 6 (I 41 6 + 1)))) ∧ gX8_weight_36 1000 (nI k) (nI n) J (lN Z.2.1, lN Z.2.2, nI (j + 1)) = some (.inr (.inl ((-1000007 : Int32).toInt64, zup J 55 6 (J 55 6 + 1))))) := by
  have b1 := Nat.mul_le_mul (show Z.1 ≤ 1000000000000 by omega) hg
  have b2 := Nat.mul_le_mul h1 hs
  have b3 := Nat.mul_le_mul h2 hs
  have b4 := Nat.mul_le_mul h1 (show k ≤ 9 by omega)
  have b5 := Nat.gcd_le_right (m := Z.2.1 * k + 2 * Z.2.2) (n := 2 * Z.2.2) (by omega)
  have b6 := Nat.gcd_pos_of_pos_right (Z.2.1 * k + 2 * Z.2.2) (show 0 < 2 * Z.2.2 by omega)
  unfold gX7_weight_81 gX8_weight_36
  simp only [zl_s, lN_mul, lN_add, two_l, nI_1, nI_l (show k < 2 ^ 31 by omega), find7_6, find8_6, zb_s]
  rw [if_neg (zz_nle (by omega) hjn), if_neg (nI_nlt (a := n) (b := j + 1) (by omega) (by omega))]
  rw [divisor8 (by omega) (by omega), zb_s, zdL_k _ b6 (by omega), zdL_k _ b6 (by omega), pk_lDiv (by omega) b6 (by omega), pk_lDiv (by omega) b6 (by omega), t1, t2]
  obtain ⟨T, hT⟩ : ∃ T, T = Z.2.1 * zwh k + Z.1 * zwg k := ⟨_, rfl⟩
  obtain ⟨B, hB⟩ : ∃ B, B = Z.2.2 * zwh k := ⟨_, rfl⟩
  rw [← hT, ← hB]
  have c1 : 0 < lg_cmp (lN T) 1000000000000 ↔ 1000000000000 < T := by
    rw [lg_cmp_gt, show (1000000000000 : Int64) = lN 1000000000000 from rfl, pk_lLT (by omega) (by omega)]
  have c2 : lg_cmp (lN B) 1000000000000 ≤ 0 ↔ B ≤ 1000000000000 := by
    rw [lg_cmp_le, show (1000000000000 : Int64) = lN 1000000000000 from rfl, pk_lLE (by omega) (by omega)]
  by_cases y1 : 1000000000000 < T
  · right
    rw [if_pos (c1.mpr y1), if_pos (c1.mpr y1)]
    exact ⟨rfl, rfl⟩
  · rw [if_neg (fun y => y1 (c1.mp y)), if_neg (fun y => y1 (c1.mp y))]
    by_cases y2 : B ≤ 1000000000000
    · left
      rw [if_pos (c2.mpr y2), if_pos (c2.mpr y2)]
      exact ⟨T, B, rfl, rfl, by omega, y2, rfl, rfl⟩
    · right
      rw [if_neg (fun y => y2 (c2.mp y)), if_neg (fun y => y2 (c2.mp y))]
      exact ⟨rfl, rfl⟩
theorem zw_rel {k n : Nat} (hk : 0 < k) (hk9 : k < 10) (hn : n < 31) (I J : zI) : ∃ r u, zit (gX7_weight_81 (nI n) I (lN (zwg k)) (lN (zwh k))) 1000 (1, 1, 1, 0) = some r ∧ zit (gX8_weight_36 1000 (nI k) (nI n) J) 1000 (1, 1, 1) = some u ∧ ((∃ x, r = .inr x ∧ u = .inr x) ∨ (r = .inl ((-1000007 : Int32).toInt64, zup I 41 6 (I 41 6 + 1)) ∧ u = .inl ((-1000007 : Int32).toInt64, zup J 55 6 (J 55 6 + 1)))) := by
  have hg : zwg k ≤ 9 := by
    unfold zwg
    by_cases q : k % 2 = 0
    · rw [if_pos q]; omega
    · rw [if_neg q]; omega
  have hs : zwh k ≤ 2 := by
    unfold zwh
    by_cases q : k % 2 = 0
    · rw [if_pos q]; omega
    · rw [if_neg q]; omega
  refine zit_rel (g := gX7_weight_81 (nI n) I (lN (zwg k)) (lN (zwh k))) (f := gX8_weight_36 1000 (nI k) (nI n) J) (fun m x y => ∃ j : Nat, j ≤ n ∧ m = n - j ∧ x = (lN (zw (zwg k) (zwh k) j).1, lN (zw (zwg k) (zwh k) j).2.1, lN (zw (zwg k) (zwh k) j).2.2, nI j) ∧ y = (lN (zw (zwg k) (zwh k) j).2.1, lN (zw (zwg k) (zwh k) j).2.2, nI (j + 1)) ∧ (zw (zwg k) (zwh k) j).2.1 ≤ 1000000000000 ∧ (zw (zwg k) (zwh k) j).2.2 ≤ 1000000000000) (fun r u => (∃ x, r = .inr x ∧ u = .inr x) ∨ (r = .inl ((-1000007 : Int32).toInt64, zup I 41 6 (I 41 6 + 1)) ∧ u = .inl ((-1000007 : Int32).toInt64, zup J 55 6 (J 55 6 + 1)))) ?_ 1000 n (1, 1, 1, 0) (1, 1, 1) ⟨0, by omega, rfl, rfl, rfl, show (1 : Nat) ≤ 1000000000000 by omega, show (1 : Nat) ≤ 1000000000000 by omega⟩ (by omega)
  rintro m x y ⟨j, hj, rfl, rfl, rfl, h1, h2⟩
  by_cases q : j = n
  · subst q
    right
    unfold gX7_weight_81 gX8_weight_36
    dsimp only
    rw [if_pos (Int32.le_refl _), if_pos (nI_lt (by omega) (by omega))]
    exact ⟨_, _, rfl, rfl, Or.inl ⟨_, rfl, rfl⟩⟩
  · obtain ⟨t0, t1, t2⟩ := zwt_of (zw_tab k hk9 hk j (by omega))
    rw [zw_s] at t1 t2
    rcases wt_step (I := I) (J := J) hk9 hg hs (show j < n by omega) hn t0 t1 t2 h1 h2 (zw_le _ _ j) with ⟨T, B, e1, e2, e3, e4, e5, e6⟩ | ⟨e5, e6⟩
    · left
      refine ⟨_, _, n - (j + 1), e5, e6, by omega, j + 1, by omega, rfl, ?_, ?_, ?_, ?_⟩
      · rw [zw_s, e1, e2]
      · rw [zw_s, e1, e2]
      · rw [zw_s, ← e1]; exact e3
      · rw [zw_s, ← e2]; exact e4
    · right
      exact ⟨_, _, e5, e6, Or.inr ⟨rfl, rfl⟩⟩
theorem grow7 : ∀ k : Nat, k < 10 → (if zrem (nI k) 2 = 0 then some ((nI k / 2).toInt64) else some (nI k).toInt64) = some (lN (zwg k)) ∧ (if zrem (nI k) 2 = 0 then some (1 : Int64) else some 2) = some (lN (zwh k)) := by decide +kernel
theorem q_weight (a b c : Int32) (I J : zI) (h : zRel I J) : ∃ r I' J', fX7_weight 1000 a b c I = some (r, I') ∧ fX8_weight 1000 a b c J = some (r, J') ∧ zRel I' J' ∧ zO7 I I' ∧ zO8 J J' := by
  unfold fX7_weight fX8_weight
  simp only [within7, within8I, houses8, zb_s, zif]
  rw [show Int32.toInt 1 = 1 from rfl, show Int32.toInt 9 = 9 from rfl, show Int32.toInt 0 = 0 from rfl, show Int32.toInt 30 = 30 from rfl, show Int64.toInt 0 = 0 from rfl, show Int64.toInt 1 = 1 from rfl]
  by_cases hab : zbt 1 9 a ∧ zbt 0 30 b
  · rw [zite_t hab, zite_t hab.1, zite_t hab.2]
    obtain ⟨k, k1, k2, rfl⟩ := zbt_k (by omega) hab.1
    obtain ⟨n, n1, n2, rfl⟩ := zbt_k (by omega) hab.2
    by_cases hc : ¬ zbt 0 1 c
    · rw [zite_f hc, zite_f hc]; exact fin_leafL h 0
    replace hc := Classical.not_not.mp hc
    rw [zite_t hc, zite_t hc, (grow7 k (by omega)).1, (grow7 k (by omega)).2, zb_s, zb_s]
    obtain ⟨r, u, e1, e2, e3⟩ := zw_rel (k := k) (n := n) (by omega) (by omega) (by omega) I J
    rw [e1, e2]
    rcases e3 with ⟨x, rfl, rfl⟩ | ⟨rfl, rfl⟩
    · rw [zbs_r, zbs_r]
      by_cases q : c = 0
      · rw [if_pos q, if_pos q]; exact ⟨_, _, _, rfl, rfl, h, zO7.rf, zO8.rf⟩
      · rw [if_neg q, if_neg q]; exact ⟨_, _, _, rfl, rfl, h, zO7.rf, zO8.rf⟩
    · rw [zbs_l, zbs_l]
      exact ⟨_, _, _, rfl, rfl, zRel_find h (k := 6) (by decide), zO7.up (by omega), zO8.up (by omega)⟩
  · rw [zite_f hab]
    by_cases ha : zbt 1 9 a
    · rw [zite_t ha, zite_f (fun z => hab ⟨ha, z⟩)]; exact fin_leafL h 0
    · rw [zite_f ha]; exact fin_leafL h 0
