/-! sets of places in a long (the wb_ rows are out of kit/laws/BITS.to-paste) -/
theorem wb_tb (n : Nat) : (lN n).toBitVec = BitVec.ofNat 64 n := rfl
theorem wb_inj {a b : Int64} (h : a.toBitVec = b.toBitVec) : a = b := Int64.toBitVec_inj.mp h
theorem wb_tn {n : Nat} (h : n < 2 ^ 64) : (lN n).toBitVec.toNat = n := by rw [wb_tb, BitVec.toNat_ofNat, Nat.mod_eq_of_lt h]
theorem wb_of (x : Int64) : ∃ n, n < 2 ^ 64 ∧ x = lN n := ⟨x.toBitVec.toNat, x.toBitVec.isLt, wb_inj (by rw [wb_tb]; simp)⟩
theorem wb_of32 (x : Int32) : ∃ n, n < 2 ^ 32 ∧ x = nI n := ⟨x.toBitVec.toNat, x.toBitVec.isLt, Int32.toBitVec_inj.mp (by show _ = BitVec.ofNat 32 _; simp)⟩
theorem wb_c : ∀ k, k < 64 → ((nI k).toInt64 &&& 63) = lN k := by decide +kernel
theorem wb_cu : ∀ k, k < 64 → ((nI k).toInt64.toUInt64 &&& Int64.toUInt64 63) = UInt64.ofNat k := by decide +kernel
theorem wb_sm : ∀ k, k < 64 → (BitVec.ofNat 64 k).smod 64 = BitVec.ofNat 64 k := by decide +kernel
theorem wb_pw {a b : Nat} (h : a ≤ b) : 2 ^ b = 2 ^ a * 2 ^ (b - a) := by rw [← Nat.pow_add]; congr 1; omega
theorem wb_lt2 {a b : Nat} (h : a < b) : 2 ^ a < 2 ^ b := Nat.pow_lt_pow_right (by decide) h
theorem wb_mod (n : Nat) : lN n = lN (n % 2 ^ 64) := wb_inj (by rw [wb_tb, wb_tb]; apply BitVec.eq_of_toNat_eq; rw [BitVec.toNat_ofNat, BitVec.toNat_ofNat, Nat.mod_mod])
theorem wb_shr {n k : Nat} (hn : n < 2 ^ 64) (hk : k < 64) : ((lN n).toUInt64 >>> ((nI k).toInt64.toUInt64 &&& Int64.toUInt64 63)).toInt64 = lN (n / 2 ^ k) := by
  rw [wb_cu k hk]
  apply wb_inj
  apply BitVec.eq_of_toNat_eq
  show ((lN n).toUInt64 >>> UInt64.ofNat k).toNat = (BitVec.ofNat 64 _).toNat
  have h1 : (UInt64.ofNat k).toNat = k := by
    show (BitVec.ofNat 64 k).toNat = k
    rw [BitVec.toNat_ofNat, Nat.mod_eq_of_lt (by omega)]
  have h2 : (lN n).toUInt64.toNat = n := wb_tn hn
  rw [UInt64.toNat_shiftRight, h1, h2, Nat.mod_eq_of_lt hk, Nat.shiftRight_eq_div_pow, BitVec.toNat_ofNat, Nat.mod_eq_of_lt (Nat.lt_of_le_of_lt (Nat.div_le_self _ _) hn)]
theorem wb_shl (n : Nat) {k : Nat} (hk : k < 64) : lN n <<< ((nI k).toInt64 &&& 63) = lN (n * 2 ^ k) := by
  rw [wb_c k hk]
  apply wb_inj
  rw [Int64.toBitVec_shiftLeft, wb_tb, wb_tb, wb_tb, wb_sm k hk]
  apply BitVec.eq_of_toNat_eq
  rw [BitVec.shiftLeft_eq', BitVec.toNat_shiftLeft, BitVec.toNat_ofNat, BitVec.toNat_ofNat, BitVec.toNat_ofNat, Nat.mod_eq_of_lt (show k < 2 ^ 64 by omega), Nat.shiftLeft_eq, Nat.mul_mod, Nat.mod_mod, ← Nat.mul_mod]
theorem wb_and {a b : Nat} (ha : a < 2 ^ 64) (hb : b < 2 ^ 64) : lN a &&& lN b = lN (a &&& b) := by
  apply wb_inj
  rw [Int64.toBitVec_and, wb_tb, wb_tb, wb_tb]
  apply BitVec.eq_of_toNat_eq
  rw [BitVec.toNat_and, BitVec.toNat_ofNat, BitVec.toNat_ofNat, BitVec.toNat_ofNat, Nat.mod_eq_of_lt ha, Nat.mod_eq_of_lt hb, Nat.mod_eq_of_lt (Nat.and_lt_two_pow _ hb)]
theorem wb_or {a b : Nat} (ha : a < 2 ^ 64) (hb : b < 2 ^ 64) : lN a ||| lN b = lN (a ||| b) := by
  apply wb_inj
  rw [Int64.toBitVec_or, wb_tb, wb_tb, wb_tb]
  apply BitVec.eq_of_toNat_eq
  rw [BitVec.toNat_or, BitVec.toNat_ofNat, BitVec.toNat_ofNat, BitVec.toNat_ofNat, Nat.mod_eq_of_lt ha, Nat.mod_eq_of_lt hb, Nat.mod_eq_of_lt (Nat.or_lt_two_pow ha hb)]
theorem wb_mask {n k : Nat} (hn : n < 2 ^ 64) (hk : k < 64) : lN n &&& lN (2 ^ k - 1) = lN (n % 2 ^ k) := by
  rw [wb_and hn (by have := wb_lt2 hk; omega), Nat.and_two_pow_sub_one_eq_mod]
theorem wb_a1 {n : Nat} (hn : n < 2 ^ 64) : lN n &&& 1 = lN (n % 2) := wb_mask (k := 1) hn (by decide)
theorem wb_bit {n k : Nat} (hn : n < 2 ^ 64) (hk : k < 64) : ((lN n).toUInt64 >>> ((nI k).toInt64.toUInt64 &&& Int64.toUInt64 63)).toInt64 &&& 1 = lN (n / 2 ^ k % 2) := by
  rw [wb_shr hn hk, wb_a1 (Nat.lt_of_le_of_lt (Nat.div_le_self _ _) hn)]
theorem shrL_k {n k : Nat} (hn : n < 2 ^ 64) (hk : k < 64) : zushrL (lN n) (nI k) = lN (n / 2 ^ k) := wb_shr hn hk
theorem shlL_k (n : Nat) {k : Nat} (hk : k < 64) : zshlL (lN n) (nI k) = lN (n * 2 ^ k) := wb_shl n hk
def zSt (v : Int64) (f : Nat → Prop) : Prop := ∃ n : Nat, n < 2 ^ 40 ∧ v = lN n ∧ ∀ q : Nat, n.testBit q = true ↔ q < 40 ∧ f q
theorem zSt_mk {n : Nat} {f : Nat → Prop} (h : ∀ q : Nat, n.testBit q = true ↔ q < 40 ∧ f q) : zSt (lN n) f := by
  refine ⟨n, Nat.lt_pow_two_of_testBit n (fun i hi => ?_), rfl, h⟩
  cases e : n.testBit i
  · rfl
  · exact absurd ((h i).mp e).1 (by omega)
theorem zSt_congr {v : Int64} {f g : Nat → Prop} (h : zSt v f) (e : ∀ q : Nat, q < 40 → (f q ↔ g q)) : zSt v g := by
  obtain ⟨n, h1, h2, h3⟩ := h
  refine ⟨n, h1, h2, fun q => ?_⟩
  rw [h3]
  constructor
  · rintro ⟨a, b⟩; exact ⟨a, (e q a).mp b⟩
  · rintro ⟨a, b⟩; exact ⟨a, (e q a).mpr b⟩
theorem zSt_or {a b : Int64} {f g : Nat → Prop} (h : zSt a f) (k : zSt b g) : zSt (a ||| b) (fun q => f q ∨ g q) := by
  obtain ⟨n, n1, rfl, n3⟩ := h
  obtain ⟨m, m1, rfl, m3⟩ := k
  rw [wb_or (by omega) (by omega)]
  refine zSt_mk fun q => ?_
  rw [Nat.testBit_or, Bool.or_eq_true, n3, m3]
  constructor
  · rintro (⟨a, b⟩ | ⟨a, b⟩)
    · exact ⟨a, Or.inl b⟩
    · exact ⟨a, Or.inr b⟩
  · rintro ⟨a, b | b⟩
    · exact Or.inl ⟨a, b⟩
    · exact Or.inr ⟨a, b⟩
theorem lN_andnot {n m : Nat} : lN n &&& (lN m ^^^ (-1)) = lN (n ^^^ (n &&& m)) := by
  apply wb_inj
  rw [Int64.toBitVec_and, Int64.toBitVec_xor, wb_tb, wb_tb, wb_tb, show (-1 : Int64).toBitVec = BitVec.allOnes 64 by decide]
  apply BitVec.eq_of_getLsbD_eq
  intro i hi
  simp only [BitVec.getLsbD_and, BitVec.getLsbD_xor, BitVec.getLsbD_ofNat, BitVec.getLsbD_allOnes, hi, decide_true, Bool.true_and, Nat.testBit_xor, Nat.testBit_and]
  cases n.testBit i <;> cases m.testBit i <;> rfl
theorem zSt_diff {a b : Int64} {f g : Nat → Prop} (h : zSt a f) (k : zSt b g) : zSt (a &&& (b ^^^ (-1))) (fun q => f q ∧ ¬ g q) := by
  obtain ⟨n, n1, rfl, n3⟩ := h
  obtain ⟨m, m1, rfl, m3⟩ := k
  rw [lN_andnot]
  refine zSt_mk fun q => ?_
  have e1 := n3 q
  have e2 := m3 q
  rw [Nat.testBit_xor, Nat.testBit_and]
  revert e1 e2
  cases n.testBit q <;> cases m.testBit q <;> intro e1 e2
  · exact ⟨fun z => absurd z (by decide), fun z => absurd (e1.mpr ⟨z.1, z.2.1⟩) (by decide)⟩
  · exact ⟨fun z => absurd z (by decide), fun z => absurd (e1.mpr ⟨z.1, z.2.1⟩) (by decide)⟩
  · refine ⟨fun _ => ?_, fun _ => rfl⟩
    have a := e1.mp rfl
    exact ⟨a.1, a.2, fun y => absurd (e2.mpr ⟨a.1, y⟩) (by decide)⟩
  · exact ⟨fun z => absurd z (by decide), fun z => absurd (e2.mp rfl).2 z.2.2⟩
theorem zSt_one {p : Nat} (hp : p < 40) : zSt (zshlL 1 (nI p)) (fun q => q = p) := by
  rw [show zshlL 1 (nI p) = lN (1 * 2 ^ p) from shlL_k 1 (by omega), Nat.one_mul]
  refine zSt_mk fun q => ?_
  rw [Nat.testBit_two_pow, decide_eq_true_eq]
  omega
theorem zSt_zero : zSt 0 (fun _ => False) := by
  refine zSt_mk (n := 0) fun q => ?_
  rw [Nat.zero_testBit]
  exact ⟨fun z => absurd z (by decide), fun z => z.2.elim⟩
theorem zSt_is0 {v : Int64} {f : Nat → Prop} (h : zSt v f) : lg_cmp v 0 = 0 ↔ ∀ q : Nat, q < 40 → ¬ f q := by
  obtain ⟨n, n1, rfl, n3⟩ := h
  rw [lg_cmp_eq, show (0 : Int64) = lN 0 from rfl, pk_lEQ (by omega) (by omega)]
  constructor
  · rintro rfl q hq z
    have := (n3 q).mpr ⟨hq, z⟩
    rw [Nat.zero_testBit] at this
    exact absurd this (by decide)
  · intro z
    have := Nat.lt_pow_two_of_testBit (n := 0) n (fun i _ => by
      cases e : n.testBit i
      · rfl
      · exact absurd ((n3 i).mp e).2 (z i ((n3 i).mp e).1))
    omega
theorem zSt_bit {v : Int64} {f : Nat → Prop} (h : zSt v f) {p : Nat} (hp : p < 40) : (zushrL v (nI p)) &&& 1 = lN 1 ∧ f p ∨ (zushrL v (nI p)) &&& 1 = lN 0 ∧ ¬ f p := by
  obtain ⟨n, n1, rfl, n3⟩ := h
  rw [show (zushrL (lN n) (nI p)) &&& 1 = lN (n / 2 ^ p % 2) from wb_bit (by omega) (by omega)]
  have e := n3 p
  rw [Nat.testBit_eq_decide_div_mod_eq, decide_eq_true_eq] at e
  rcases Nat.mod_two_eq_zero_or_one (n / 2 ^ p) with q | q
  · right; rw [q]; exact ⟨rfl, fun y => by
      have := e.mpr ⟨hp, y⟩
      omega⟩
  · left; rw [q]; exact ⟨rfl, (e.mp q).2⟩
theorem zSt_b1 {v : Int64} {f : Nat → Prop} (h : zSt v f) {p : Nat} (hp : p < 40) : lg_cmp ((zushrL v (nI p)) &&& 1) 1 = 0 ↔ f p := by
  rcases zSt_bit h hp with ⟨a, b⟩ | ⟨a, b⟩
  · rw [a]; exact ⟨fun _ => b, fun _ => by decide⟩
  · rw [a]; exact ⟨fun z => absurd z (by decide), fun z => absurd z b⟩
theorem zSt_b0 {v : Int64} {f : Nat → Prop} (h : zSt v f) {p : Nat} (hp : p < 40) : lg_cmp ((zushrL v (nI p)) &&& 1) 0 = 0 ↔ ¬ f p := by
  rcases zSt_bit h hp with ⟨a, b⟩ | ⟨a, b⟩
  · rw [a]; exact ⟨fun z => absurd z (by decide), fun z => absurd b z⟩
  · rw [a]; exact ⟨fun _ => b, fun _ => by decide⟩
/-- one place of each level -/
def zmk : Nat → Nat
  | 0 => 0
  | L + 1 => 256 * zmk L + 1
theorem zmk_5 : (4311810305 : Int64) = lN (zmk 5) := by rw [show zmk 5 = 4311810305 by decide]; rfl
theorem zmk_4 : (16843009 : Int64) = lN (zmk 4) := by rw [show zmk 4 = 16843009 by decide]; rfl
theorem zmk_lt : zmk 5 < 2 ^ 40 ∧ zmk 4 < 2 ^ 40 := by decide
theorem mask_split (L x : Nat) : x &&& zmk (L + 1) = 2 ^ 8 * ((x / 2 ^ 8) &&& zmk L) + x % 2 := by
  have e1 : (x &&& zmk (L + 1)) / 2 ^ 8 = (x / 2 ^ 8) &&& zmk L := by
    rw [Nat.and_div_two_pow, show zmk (L + 1) / 2 ^ 8 = zmk L by show (256 * zmk L + 1) / 2 ^ 8 = zmk L; omega]
  have e2 : (x &&& zmk (L + 1)) % 2 ^ 8 = x % 2 := by
    rw [Nat.and_mod_two_pow, show zmk (L + 1) % 2 ^ 8 = 1 by show (256 * zmk L + 1) % 2 ^ 8 = 1; omega, Nat.and_one_is_mod]
    omega
  rw [← e1, ← e2, Nat.div_add_mod]
theorem mask_mul : ∀ (L x d : Nat), d < 256 → ∀ q : Nat, ((x &&& zmk L) * d).testBit q = (decide (q < 8 * L) && x.testBit (8 * (q / 8)) && d.testBit (q % 8)) := by
  intro L
  induction L with
  | zero =>
    intro x d hd q
    show ((x &&& 0) * d).testBit q = _
    rw [Nat.and_zero, Nat.zero_mul, Nat.zero_testBit, decide_eq_false (show ¬ q < 8 * 0 by omega), Bool.false_and, Bool.false_and]
  | succ L ih =>
    intro x d hd q
    have hb : x % 2 * d < 2 ^ 8 := by
      rcases Nat.mod_two_eq_zero_or_one x with z | z
      · rw [z, Nat.zero_mul]; omega
      · rw [z, Nat.one_mul]; omega
    rw [mask_split, Nat.add_mul, Nat.mul_assoc, Nat.testBit_two_pow_mul_add _ hb]
    by_cases h8 : q < 8
    · rw [if_pos h8, show q / 8 = 0 by omega, show q % 8 = q by omega, decide_eq_true (show q < 8 * (L + 1) by omega), Bool.true_and, show 8 * 0 = 0 from rfl, Nat.testBit_zero]
      rcases Nat.mod_two_eq_zero_or_one x with z | z
      · rw [z, Nat.zero_mul, Nat.zero_testBit, decide_eq_false (by decide), Bool.false_and]
      · rw [z, Nat.one_mul, decide_eq_true rfl, Bool.true_and]
    · rw [if_neg h8, ih _ _ hd, Nat.testBit_div_two_pow, show 8 * ((q - 8) / 8) + 8 = 8 * (q / 8) by omega, show (q - 8) % 8 = q % 8 by omega]
      rw [show decide (q - 8 < 8 * L) = decide (q < 8 * (L + 1)) from decide_eq_decide.mpr (by omega)]
theorem mask_bit (L x q : Nat) : (x &&& zmk L).testBit q = (decide (q < 8 * L) && x.testBit q && decide (q % 8 = 0)) := by
  have h := mask_mul L x 1 (by decide) q
  rw [Nat.mul_one] at h
  rw [h, show (1 : Nat) = 2 ^ 0 from rfl, Nat.testBit_two_pow]
  by_cases z : q % 8 = 0
  · rw [show 8 * (q / 8) = q by omega, decide_eq_true z, decide_eq_true z.symm]
  · rw [decide_eq_false z, decide_eq_false (show ¬ 0 = q % 8 from fun y => z y.symm), Bool.and_false, Bool.and_false]
def zop (S : Nat → Int32) (a b : Nat) : Prop := zshr (S a) (nI b) &&& 1 = 1
theorem zop_bits : ∀ d : Nat, d < 256 → ∀ b : Nat, b < 8 → decide (zshr (nI d) (nI b) &&& 1 = 1) = d.testBit b := by decide +kernel
theorem zop_bit {S : Nat → Int32} {a b d : Nat} (hd : d < 256) (hb : b < 8) (e : S a = nI d) : d.testBit b = true ↔ zop S a b := by
  unfold zop
  rw [e, ← zop_bits d hd b hb, decide_eq_true_eq]
/-- WALK, IN, OUT -/
def zstp (S : Nat → Int32) (p q : Nat) : Prop := (q / 8 = p / 8 ∧ zop S (p % 8) (q % 8)) ∨ (p % 8 = zn (S 8) ∧ p / 8 < 4 ∧ q = 8 * (p / 8 + 1) + zn (S 9)) ∨ (p % 8 = zn (S 9) ∧ 0 < p / 8 ∧ q = 8 * (p / 8 - 1) + zn (S 8))
theorem next_room {n d j : Nat} {S : Nat → Int32} (hn : n < 2 ^ 40) (hd : d < 256) (hj : j < 8) (e : S j = nI d) : zSt (((zushrL (lN n) (nI j)) &&& 4311810305) * (nI d).toInt64) (fun q => n.testBit (8 * (q / 8) + j) = true ∧ zop S j (q % 8)) := by
  have hz := zmk_lt
  have hq := Nat.div_le_self n (2 ^ j)
  rw [shrL_k (by omega) (by omega), zmk_5, wb_and (by omega) (by omega), nI_l (by omega), lN_mul]
  refine zSt_mk fun q => ?_
  rw [mask_mul 5 _ d hd, Nat.testBit_div_two_pow, Bool.and_eq_true, Bool.and_eq_true, decide_eq_true_eq, zop_bit hd (show q % 8 < 8 by omega) e]
  constructor
  · rintro ⟨⟨a, b⟩, c⟩; exact ⟨a, b, c⟩
  · rintro ⟨a, b, c⟩; exact ⟨⟨a, b⟩, c⟩
theorem next_in {n s g : Nat} (hn : n < 2 ^ 40) (hs : s < 8) (hg : g < 8) : zSt (zshlL ((zushrL (lN n) (nI s)) &&& 16843009) (8 + nI g)) (fun q => ∃ p : Nat, n.testBit p = true ∧ p % 8 = s ∧ p / 8 < 4 ∧ q = 8 * (p / 8 + 1) + g) := by
  have hz := zmk_lt
  have hq := Nat.div_le_self n (2 ^ s)
  rw [shrL_k (by omega) (by omega), zmk_4, wb_and (by omega) (by omega), show (8 : Int32) + nI g = nI (8 + g) from nI_add 8 g, shlL_k _ (by omega)]
  refine zSt_mk fun q => ?_
  rw [Nat.testBit_mul_two_pow, mask_bit, Nat.testBit_div_two_pow, Bool.and_eq_true, Bool.and_eq_true, Bool.and_eq_true, decide_eq_true_eq, decide_eq_true_eq, decide_eq_true_eq]
  constructor
  · rintro ⟨a, ⟨b, c⟩, d⟩
    exact ⟨by omega, _, c, by omega, by omega, by omega⟩
  · rintro ⟨a, p, b, c, d, rfl⟩
    refine ⟨by omega, ⟨by omega, ?_⟩, by omega⟩
    rw [show 8 * (p / 8 + 1) + g - (8 + g) + s = p by omega]
    exact b
theorem next_out {n s g : Nat} (hn : n < 2 ^ 40) (hs : s < 8) (hg : g < 8) : zSt (zshlL (zushrL ((zushrL (lN n) (nI g)) &&& 4311810305) 8) (nI s)) (fun q => ∃ p : Nat, n.testBit p = true ∧ p % 8 = g ∧ 0 < p / 8 ∧ q = 8 * (p / 8 - 1) + s) := by
  have hz := zmk_lt
  have hq := Nat.div_le_self n (2 ^ g)
  have hb : n / 2 ^ g &&& zmk 5 < 2 ^ 64 := Nat.lt_of_le_of_lt Nat.and_le_right (by omega)
  rw [shrL_k (by omega) (by omega), zmk_5, wb_and (by omega) (by omega), show zushrL (lN (n / 2 ^ g &&& zmk 5)) 8 = lN ((n / 2 ^ g &&& zmk 5) / 2 ^ 8) from shrL_k (k := 8) hb (by omega), shlL_k _ (by omega)]
  refine zSt_mk fun q => ?_
  rw [Nat.testBit_mul_two_pow, Nat.testBit_div_two_pow, mask_bit, Nat.testBit_div_two_pow, Bool.and_eq_true, Bool.and_eq_true, Bool.and_eq_true, decide_eq_true_eq, decide_eq_true_eq, decide_eq_true_eq]
  constructor
  · rintro ⟨a, ⟨b, c⟩, d⟩
    exact ⟨by omega, _, c, by omega, by omega, by omega⟩
  · rintro ⟨a, p, b, c, d, rfl⟩
    have hp : p < 40 := by
      rcases Nat.lt_or_ge p 40 with z | z
      · exact z
      · have := Nat.testBit_lt_two_pow (x := n) (i := p) (Nat.lt_of_lt_of_le hn (Nat.pow_le_pow_right (by decide) z))
        rw [b] at this
        exact absurd this (by decide)
    refine ⟨by omega, ⟨by omega, ?_⟩, by omega⟩
    rw [show 8 * (p / 8 - 1) + s - s + 8 + g = p by omega]
    exact b
theorem next6 {w : Nat} {I J : zI} (h : zRw w I J) {v : Int64} {f : Nat → Prop} (hv : zSt v f) : ∃ u, fX6_nextPlaces 1000 w v I = some u ∧ zSt u (fun q => ∃ p : Nat, p < 40 ∧ f p ∧ zstp (J 51) p q) := by
  obtain ⟨n, hn, rfl, hf⟩ := hv
  obtain ⟨s, hs8, hs⟩ := h.2.small
  obtain ⟨g, hg8, hg⟩ := h.2.gate
  obtain ⟨x, e1, e2⟩ := zit_one (g := gX6_nextPlaces_5 w (lN n) I) (fun k y => ∃ (j : Nat) (a : Int64), j ≤ 8 ∧ k = 8 - j ∧ y = (a, nI j) ∧ zSt a (fun q => ∃ r : Nat, r < j ∧ n.testBit (8 * (q / 8) + r) = true ∧ zop (J 51) r (q % 8))) (fun x => zSt x (fun q => ∃ r : Nat, r < 8 ∧ n.testBit (8 * (q / 8) + r) = true ∧ zop (J 51) r (q % 8))) (by
    rintro k y ⟨j, a, hj, rfl, rfl, ha⟩
    unfold gX6_nextPlaces_5
    simp only [zl_s, nI_1]
    by_cases q : j = 8
    · subst q
      right
      rw [if_pos (show (8 : Int32) ≤ nI 8 from Int32.le_refl _)]
      exact ⟨_, rfl, ha⟩
    · left
      have hj8 : j < 8 := by omega
      obtain ⟨d, hd, ed⟩ := h.2.door hj8
      rw [if_neg (show ¬ (8 : Int32) ≤ nI j from zz_nle (b := 8) (by omega) hj8), zg_k _ hj8, zn_k (show j < 2 ^ 31 by omega), h.door hj8, ed]
      refine ⟨_, 8 - (j + 1), rfl, by omega, j + 1, _, by omega, rfl, rfl, zSt_congr (zSt_or ha (next_room hn hd hj8 ed)) (fun q hq => ?_)⟩
      constructor
      · rintro (⟨r, a1, a2⟩ | a2)
        · exact ⟨r, by omega, a2⟩
        · exact ⟨j, by omega, a2⟩
      · rintro ⟨r, a1, a2⟩
        by_cases z : r = j
        · subst z; exact Or.inr a2
        · exact Or.inl ⟨r, by omega, a2⟩) 1000 8 (0, 0) ⟨0, 0, by omega, rfl, rfl, zSt_congr zSt_zero (fun q hq => ⟨fun z => z.elim, fun ⟨r, z, _⟩ => absurd z (by omega)⟩)⟩ (by omega)
  unfold fX6_nextPlaces
  rw [e1, zb_s, zl_s, zl_s, h.small, h.gate, hs, hg]
  refine ⟨_, rfl, zSt_congr (zSt_or (zSt_or e2 (next_in hn hs8 hg8)) (next_out hn hs8 hg8)) (fun q hq => ?_)⟩
  have z8 : zn (J 51 8) = s := by rw [hs]; exact zn_k (by omega)
  have z9 : zn (J 51 9) = g := by rw [hg]; exact zn_k (by omega)
  unfold zstp
  rw [z8, z9]
  constructor
  · rintro ((⟨r, a1, a2, a3⟩ | ⟨p, a1, a2⟩) | ⟨p, a1, a2⟩)
    · refine ⟨8 * (q / 8) + r, by omega, ((hf _).mp a2).2, Or.inl ⟨by omega, ?_⟩⟩
      rw [show (8 * (q / 8) + r) % 8 = r by omega]
      exact a3
    · exact ⟨p, ((hf p).mp a1).1, ((hf p).mp a1).2, Or.inr (Or.inl a2)⟩
    · exact ⟨p, ((hf p).mp a1).1, ((hf p).mp a1).2, Or.inr (Or.inr a2)⟩
  · rintro ⟨p, a1, a2, (⟨a3, a4⟩ | a3 | a3)⟩
    · refine Or.inl (Or.inl ⟨p % 8, by omega, ?_, a4⟩)
      rw [a3, show 8 * (p / 8) + p % 8 = p by omega]
      exact (hf p).mpr ⟨a1, a2⟩
    · exact Or.inl (Or.inr ⟨p, (hf p).mpr ⟨a1, a2⟩, a3⟩)
    · exact Or.inr ⟨p, (hf p).mpr ⟨a1, a2⟩, a3⟩
/-- one is strong enough for a thing in a level -/
def zlg (S : Nat → Int32) (i t l : Nat) : Prop := ¬ S (56 + i) < zheft (S (28 + t)) (S (44 + t)) (nI l)
theorem light6 {w i t : Nat} {I J : zI} (h : zRw w I J) (hi : i < 4) (ht : t < 8) : ∃ u, fX6_lightLevels 1000 w (nI i) (nI t) I = some u ∧ zSt u (fun q => q % 8 = 0 ∧ zlg (J 51) i t (q / 8)) := by
  obtain ⟨x, e1, e2⟩ := zit_one (g := gX6_lightLevels_5 w (nI i) (nI t) I) (fun k y => ∃ (j : Nat) (a : Int64), j ≤ 5 ∧ k = 5 - j ∧ y = (a, nI j) ∧ zSt a (fun q => q % 8 = 0 ∧ q / 8 < j ∧ zlg (J 51) i t (q / 8))) (fun x => zSt x (fun q => q % 8 = 0 ∧ q / 8 < 5 ∧ zlg (J 51) i t (q / 8))) (by
    rintro k y ⟨j, a, hj, rfl, rfl, ha⟩
    unfold gX6_lightLevels_5
    simp only [zl_s, nI_1]
    by_cases q : j = 5
    · subst q
      right
      rw [if_pos (show (5 : Int32) ≤ nI 5 from Int32.le_refl _)]
      exact ⟨_, rfl, ha⟩
    · left
      have hj5 : j < 5 := by omega
      rw [if_neg (show ¬ (5 : Int32) ≤ nI j from zz_nle (b := 5) (by omega) hj5), weight6 h ht, zb_s, zg_k _ hi, zn_k (show i < 2 ^ 31 by omega), h.strength hi]
      by_cases z : J 51 (56 + i) < zheft (J 51 (28 + t)) (J 51 (44 + t)) (nI j)
      · rw [if_pos z]
        refine ⟨_, 5 - (j + 1), rfl, by omega, j + 1, _, by omega, rfl, rfl, zSt_congr ha (fun q hq => ?_)⟩
        constructor
        · rintro ⟨a1, a2, a3⟩; exact ⟨a1, by omega, a3⟩
        · rintro ⟨a1, a2, a3⟩
          by_cases y : q / 8 = j
          · rw [y] at a3; exact absurd z a3
          · exact ⟨a1, by omega, a3⟩
      · rw [if_neg z, show nI j * (8 : Int32) = nI (j * 8) from pk_mul j 8]
        refine ⟨_, 5 - (j + 1), rfl, by omega, j + 1, _, by omega, rfl, rfl, zSt_congr (zSt_or ha (zSt_one (p := j * 8) (by omega))) (fun q hq => ?_)⟩
        constructor
        · rintro (⟨a1, a2, a3⟩ | a1)
          · exact ⟨a1, by omega, a3⟩
          · refine ⟨by omega, by omega, ?_⟩
            rw [show q / 8 = j by omega]
            exact z
        · rintro ⟨a1, a2, a3⟩
          by_cases y : q / 8 = j
          · exact Or.inr (by omega)
          · exact Or.inl ⟨a1, by omega, a3⟩) 1000 5 (0, 0) ⟨0, 0, by omega, rfl, rfl, zSt_congr zSt_zero (fun q hq => ⟨fun z => z.elim, fun z => absurd z.2.1 (by omega)⟩)⟩ (by omega)
  unfold fX6_lightLevels
  rw [e1, zb_s]
  exact ⟨_, rfl, zSt_congr e2 (fun q hq => ⟨fun z => ⟨z.1, z.2.2⟩, fun z => ⟨z.1, by omega, z.2⟩⟩)⟩
theorem st_carry {e u : Int64} {f L : Nat → Prop} (he : zSt e f) (hu : zSt u (fun q => q % 8 = 0 ∧ L (q / 8))) {r to : Nat} (hr : r < 8) (hto : to < 8) : zSt (zshlL ((zushrL e (nI r)) &&& u) (nI to)) (fun q => q % 8 = to ∧ f (8 * (q / 8) + r) ∧ L (q / 8)) := by
  obtain ⟨n, n1, rfl, n3⟩ := he
  obtain ⟨m, m1, rfl, m3⟩ := hu
  have hq := Nat.div_le_self n (2 ^ r)
  rw [shrL_k (by omega) (by omega), wb_and (by omega) (by omega), shlL_k _ (by omega)]
  refine zSt_mk fun q => ?_
  rw [Nat.testBit_mul_two_pow, Nat.testBit_and, Nat.testBit_div_two_pow, Bool.and_eq_true, Bool.and_eq_true, decide_eq_true_eq, n3, m3]
  constructor
  · rintro ⟨a, ⟨b, c⟩, d, e1, e2⟩
    refine ⟨by omega, by omega, ?_, ?_⟩
    · rw [show 8 * (q / 8) + r = q - to + r by omega]; exact c
    · rw [show q / 8 = (q - to) / 8 by omega]; exact e2
  · rintro ⟨a, b, c, d⟩
    refine ⟨by omega, ⟨by omega, ?_⟩, by omega, by omega, ?_⟩
    · rw [show q - to + r = 8 * (q / 8) + r by omega]; exact c
    · rw [show (q - to) / 8 = q / 8 by omega]; exact d
theorem st_reach {e u : Int64} {f L : Nat → Prop} (he : zSt e f) (hu : zSt u (fun q => q % 8 = 0 ∧ L (q / 8))) {s : Nat} (hs : s < 8) : zSt (zshlL ((zushrL e (nI s)) &&& (zushrL u 8)) (nI s)) (fun q => q % 8 = s ∧ q / 8 < 4 ∧ f q ∧ L (q / 8 + 1)) := by
  obtain ⟨n, n1, rfl, n3⟩ := he
  obtain ⟨m, m1, rfl, m3⟩ := hu
  have hq := Nat.div_le_self n (2 ^ s)
  have hq2 := Nat.div_le_self m (2 ^ 8)
  rw [shrL_k (by omega) (by omega), show zushrL (lN m) 8 = lN (m / 2 ^ 8) from shrL_k (k := 8) (by omega) (by omega), wb_and (by omega) (by omega), shlL_k _ (by omega)]
  refine zSt_mk fun q => ?_
  rw [Nat.testBit_mul_two_pow, Nat.testBit_and, Nat.testBit_div_two_pow, Nat.testBit_div_two_pow, Bool.and_eq_true, Bool.and_eq_true, decide_eq_true_eq, n3, m3]
  constructor
  · rintro ⟨a, ⟨b, c⟩, d, e1, e2⟩
    refine ⟨by omega, by omega, by omega, ?_, ?_⟩
    · rw [show q - s + s = q by omega] at c; exact c
    · rw [show q / 8 + 1 = (q - s + 8) / 8 by omega]; exact e2
  · rintro ⟨a, b, c, d, e1⟩
    refine ⟨by omega, ⟨by omega, ?_⟩, by omega, by omega, ?_⟩
    · rw [show q - s + s = q by omega]; exact d
    · rw [show (q - s + 8) / 8 = q / 8 + 1 by omega]; exact e1
