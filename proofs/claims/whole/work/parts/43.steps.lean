/-! the steps of one with a thing, and all that is come to: the reference -/
/-- a state: 8 times a place, and the room of the thing -/
def zE (S : Nat → Int32) (C R : Nat → Prop) (x y : Nat) : Prop := x < 320 ∧ y < 320 ∧ ((zstp S (x / 8) (y / 8) ∧ y % 8 = x % 8) ∨ (C (x / 64) ∧ x % 8 = x / 8 % 8 ∧ y / 64 = x / 64 ∧ zop S (x / 8 % 8) (y / 8 % 8) ∧ y % 8 = y / 8 % 8) ∨ (R (x / 64) ∧ x / 8 % 8 = zn (S 8) ∧ x / 64 < 4 ∧ y / 8 = x / 8))
/-- what C and R are for the arguments of walksAll -/
def zTh (S : Nat → Int32) (i : Nat) (a2 a3 : Int32) (C R : Nat → Prop) : Prop := (a2 = (-1) ∧ ∀ l : Nat, ¬ C l ∧ ¬ R l) ∨ ∃ t : Nat, t < 8 ∧ a2 = nI t ∧ ∀ l : Nat, (C l ↔ zlg S i t l) ∧ (R l ↔ ¬ a3 = 0 ∧ zlg S i t (l + 1))
theorem dv8 (a : Nat) {b : Nat} (h : b < 8) : (8 * a + b) / 8 = a := by omega
theorem md8 (a : Nat) {b : Nat} (h : b < 8) : (8 * a + b) % 8 = b := by omega
theorem dv64 (a : Nat) {b : Nat} (h : b < 8) : (8 * a + b) / 64 = a / 8 := by
  rw [show (64 : Nat) = 8 * 8 from rfl, ← Nat.div_div_eq_div_mul, dv8 a h]
theorem carr8 {i p r : Nat} {J : zI} {a2 a3 : Int32} {C R : Nat → Prop} (hT : zTh (J 51) i a2 a3 C R) (hi : i < 4) (hp : p < 40) (hr : r < 8) : (zbs (if a2 < 0 then some (.inr ()) else if nI r = nI (p % 8) then zb (fX8_weighs a2 (nI (p / 8)) J) fun o12 => zg (56 + nI i) 120 (if (J 51 (zn (56 + nI i))) < o12 then some (.inr ()) else some (.inl 1)) else some (.inr ())) fun x7 : Unit => some (0 : Int32)) = some (zp (C (p / 8) ∧ r = p % 8)) := by
  rcases hT with ⟨rfl, hC⟩ | ⟨t, ht, rfl, hC⟩
  · rw [if_pos (by decide), zbs_r, zp_f (fun z => (hC _).1 z.1)]
  · rw [if_neg (nI_pos (by omega))]
    by_cases q : r = p % 8
    · rw [if_pos (show nI r = nI (p % 8) by rw [q]), weighs8 ht, zb_s, show (56 : Int32) + nI i = nI (56 + i) from nI_add 56 i, zg_k _ (show 56 + i < 120 by omega), zn_k (show 56 + i < 2 ^ 31 by omega)]
      by_cases z : J 51 (56 + i) < zheft (J 51 (28 + t)) (J 51 (44 + t)) (nI (p / 8))
      · rw [if_pos z, zbs_r, zp_f (fun y => ((hC _).1.mp y.1) z)]
      · rw [if_neg z, zbs_l, zp_t ⟨(hC _).1.mpr z, q⟩]
    · rw [if_neg (fun z => q ((nI_eq (by omega) (by omega)).mp z)), zbs_r, zp_f (fun z => q z.2)]
theorem bef_v {p s : Nat} (hp : p < 40) (hs : s < 8) : (zbs (if nI (p % 8) = nI s then if 4 ≤ nI (p / 8) then some (.inr ()) else some (.inl 1) else some (.inr ())) fun x7 : Unit => some (0 : Int32)) = some (zp (p % 8 = s ∧ p / 8 < 4)) := by
  by_cases q : p % 8 = s
  · rw [if_pos (show nI (p % 8) = nI s by rw [q])]
    by_cases q2 : p / 8 < 4
    · rw [if_neg (show ¬ 4 ≤ nI (p / 8) from zz_nle (b := 4) (by omega) q2), zbs_l, zp_t ⟨q, q2⟩]
    · rw [if_pos (show 4 ≤ nI (p / 8) by rw [show p / 8 = 4 by omega]; decide), zbs_r, zp_f (fun z => q2 z.2)]
  · rw [if_neg (show ¬ nI (p % 8) = nI s from fun z => q ((nI_eq (by omega) (by omega)).mp z)), zbs_r, zp_f (fun z => q z.1)]
theorem may8 {i p : Nat} {J : zI} {a2 a3 : Int32} {C R : Nat → Prop} {B : Prop} (hT : zTh (J 51) i a2 a3 C R) (hi : i < 4) (hp : p < 40) : (zbs (if a3 = 0 then some (.inr ()) else if a2 < 0 then some (.inr ()) else if zp B = 0 then some (.inr ()) else zb (fX8_weighs a2 (nI (p / 8) + 1) J) fun o64 => zg (56 + nI i) 120 (if (J 51 (zn (56 + nI i))) < o64 then some (.inr ()) else some (.inl 1))) fun x59 : Unit => some (0 : Int32)) = some (zp (R (p / 8) ∧ B)) := by
  rcases hT with ⟨rfl, hC⟩ | ⟨t, ht, rfl, hC⟩
  · rw [zp_f (p := R (p / 8) ∧ B) (fun z => (hC _).2 z.1)]
    by_cases q : a3 = 0
    · rw [if_pos q, zbs_r]
    · rw [if_neg q, if_pos (by decide), zbs_r]
  · by_cases q : a3 = 0
    · rw [if_pos q, zbs_r, zp_f (fun z => ((hC _).2.mp z.1).1 q)]
    · rw [if_neg q, if_neg (nI_pos (by omega)), zif]
      by_cases b : B
      · rw [zite_t b, nI_1, weighs8 ht, zb_s, show (56 : Int32) + nI i = nI (56 + i) from nI_add 56 i, zg_k _ (show 56 + i < 120 by omega), zn_k (show 56 + i < 2 ^ 31 by omega)]
        by_cases z : J 51 (56 + i) < zheft (J 51 (28 + t)) (J 51 (44 + t)) (nI (p / 8 + 1))
        · rw [if_pos z, zbs_r, zp_f (fun y => ((hC _).2.mp y.1).2 z)]
        · rw [if_neg z, zbs_l, zp_t ⟨(hC _).2.mpr ⟨q, z⟩, b⟩]
      · rw [zite_f b, zbs_r, zp_f (fun z => b z.2)]
theorem stepsFrom8 {s d i p r qn : Nat} {J : zI} {a2 a3 : Int32} {C R : Nat → Prop} (hF : zWF (J 51)) (hQ : zQ (zE (J 51) C R) s J qn) (hB : ∀ k : Nat, k < qn → qst J (quu J k) ≤ d) (hd : d ≤ qn) (hT : zTh (J 51) i a2 a3 C R) (hi : i < 4) (hp : p < 40) (hr : r < 8) (hS : ∀ y : Nat, zE (J 51) C R (8 * p + r) y → zRe (zE (J 51) C R) s d y) : ∃ J' : zI, fX8_stepsFrom 1000 (nI i) a2 a3 (nI p) (nI r) (nI d) J = some J' ∧ zW8 (zE (J 51) C R) s d J qn J' ∧ (∀ y : Nat, zE (J 51) C R (8 * p + r) y → zHi d J' y) := by
  obtain ⟨sm, hs8, hs⟩ := hF.small
  obtain ⟨g, hg8, hg⟩ := hF.gate
  have z8 : zn (J 51 8) = sm := by rw [hs]; exact zn_k (by omega)
  have z9 : zn (J 51 9) = g := by rw [hg]; exact zn_k (by omega)
  have g8 : ∀ t : Option zI, zg 8 120 t = t := fun t => zg_k (i := 8) t (by decide)
  have g9 : ∀ t : Option zI, zg 9 120 t = t := fun t => zg_k (i := 9) t (by decide)
  have n8 : zn 8 = 8 := rfl
  have n9 : zn 9 = 9 := rfl
  have hW : zW8 (zE (J 51) C R) s d J qn J := ⟨qn, hQ, Nat.le_refl _, hB, zGr.rf⟩
  have hE : ∀ y : Nat, zE (J 51) C R (8 * p + r) y ↔ y < 320 ∧ ((zstp (J 51) p (y / 8) ∧ y % 8 = r) ∨ (C (p / 8) ∧ r = p % 8 ∧ y / 64 = p / 8 ∧ zop (J 51) (p % 8) (y / 8 % 8) ∧ y % 8 = y / 8 % 8) ∨ (R (p / 8) ∧ p % 8 = sm ∧ p / 8 < 4 ∧ y / 8 = p)) := by
    intro y
    unfold zE
    rw [z8, show (8 * p + r) / 8 = p by omega, show (8 * p + r) % 8 = r by omega, show (8 * p + r) / 64 = p / 8 by omega]
    exact ⟨fun z => z.2, fun z => ⟨by omega, z⟩⟩
  have mk1 : ∀ to : Nat, to < 8 → zop (J 51) (p % 8) to → zE (J 51) C R (8 * p + r) (8 * (8 * (p / 8) + to) + r) := by
    intro to ht ho
    refine (hE _).mpr ⟨by omega, Or.inl ⟨Or.inl ⟨by omega, ?_⟩, by omega⟩⟩
    rw [show (8 * (8 * (p / 8) + to) + r) / 8 % 8 = to by omega]
    exact ho
  have mk2 : ∀ to : Nat, to < 8 → (C (p / 8) ∧ r = p % 8) → zop (J 51) (p % 8) to → zE (J 51) C R (8 * p + r) (8 * (8 * (p / 8) + to) + to) := by
    intro to ht hc ho
    have e : (8 * (8 * (p / 8) + to) + to) / 8 = 8 * (p / 8) + to := dv8 _ ht
    refine (hE _).mpr ⟨by omega, Or.inr (Or.inl ⟨hc.1, hc.2, ?_, ?_, ?_⟩)⟩
    · rw [dv64 _ ht, dv8 _ ht]
    · rw [e, md8 _ ht]; exact ho
    · rw [e, md8 _ ht, md8 _ ht]
  have mk3 : p % 8 = sm ∧ p / 8 < 4 → zE (J 51) C R (8 * p + r) (8 * (8 * (p / 8 + 1) + g) + r) := by
    rintro ⟨h1, h2⟩
    refine (hE _).mpr ⟨by omega, Or.inl ⟨Or.inr (Or.inl ⟨by rw [z8]; exact h1, h2, ?_⟩), by omega⟩⟩
    rw [z9]
    omega
  have mk4 : p % 8 = g ∧ 0 < p / 8 → zE (J 51) C R (8 * p + r) (8 * (8 * (p / 8 - 1) + sm) + r) := by
    rintro ⟨h1, h2⟩
    refine (hE _).mpr ⟨by omega, Or.inl ⟨Or.inr (Or.inr ⟨by rw [z9]; exact h1, h2, ?_⟩), by omega⟩⟩
    rw [z8]
    omega
  have mk5 : ∀ to : Nat, to < 8 → (R (p / 8) ∧ p % 8 = sm ∧ p / 8 < 4) → zE (J 51) C R (8 * p + r) (8 * p + to) := by
    intro to ht hc
    exact (hE _).mpr ⟨by omega, Or.inr (Or.inr ⟨hc.1, hc.2.1, hc.2.2, by omega⟩)⟩
  unfold fX8_stepsFrom
  rw [(pl_dr p hp).1, (pl_dr p hp).2, zl_s, zl_s, carr8 hT hi hp hr, zb_s]
  obtain ⟨X1, e1, w1, k1, h1⟩ := steps54 (C := C (p / 8) ∧ r = p % 8) hW hd hp hr (fun to ht ho => hS _ (mk1 to ht ho)) (fun to ht hc ho => hS _ (mk2 to ht hc ho))
  rw [e1, zb_s, g8, n8, k1.row, hs, bef_v hp hs8, zb_s, zif]
  have st2 : ∃ X2, zite (p % 8 = sm ∧ p / 8 < 4) (zg 9 120 (zb (fX8_finds (8 * (nI (p / 8) + 1) + J 51 (zn 9)) (nI r) (nI d) X1) fun o47 => some o47)) (some X1) = some X2 ∧ zW8 (zE (J 51) C R) s d J qn X2 ∧ zKp d X1 X2 ∧ (p % 8 = sm ∧ p / 8 < 4 → zHi d X2 (8 * (8 * (p / 8 + 1) + g) + r)) := by
    by_cases q : p % 8 = sm ∧ p / 8 < 4
    · rw [zite_t q, g9, n9, hg, nI_1]
      obtain ⟨X2, f1, f2, f3, f4⟩ := finds_W (a1 := 8 * nI (p / 8 + 1) + nI g) (a2 := nI r) w1 (x := 8 * (8 * (p / 8 + 1) + g) + r) (by omega) hd (hS _ (mk3 q)) (by rw [ix_2, ix_2])
      rw [f1, zb_s]
      exact ⟨X2, rfl, f2, f4, fun _ => f3⟩
    · rw [zite_f q]
      exact ⟨X1, rfl, w1, zKp.rf, fun z => absurd z q⟩
  obtain ⟨X2, e2, w2, k2, h2⟩ := st2
  have k12 := k1.tr k2
  rw [e2, zb_s, g9, n9, k12.row, hg]
  have st3 : ∃ X3, (if nI (p % 8) = nI g then if nI (p / 8) ≤ 0 then some X2 else zg 8 120 (zb (fX8_finds (8 * (nI (p / 8) - 1) + J 51 8) (nI r) (nI d) X2) fun o54 => some o54) else some X2) = some X3 ∧ zW8 (zE (J 51) C R) s d J qn X3 ∧ zKp d X2 X3 ∧ (p % 8 = g ∧ 0 < p / 8 → zHi d X3 (8 * (8 * (p / 8 - 1) + sm) + r)) := by
    by_cases q : p % 8 = g
    · rw [if_pos (show nI (p % 8) = nI g by rw [q])]
      by_cases q2 : 0 < p / 8
      · rw [if_neg (nI_nle q2 (by omega)), g8, hs, show nI (p / 8) - 1 = nI (p / 8 - 1) by
          obtain ⟨x, hx⟩ : ∃ x, p / 8 = x + 1 := ⟨p / 8 - 1, by omega⟩
          rw [hx, nI_pred]; rfl]
        obtain ⟨X3, f1, f2, f3, f4⟩ := finds_W (a1 := 8 * nI (p / 8 - 1) + nI sm) (a2 := nI r) w2 (x := 8 * (8 * (p / 8 - 1) + sm) + r) (by omega) hd (hS _ (mk4 ⟨q, q2⟩)) (by rw [ix_2, ix_2])
        rw [f1, zb_s]
        exact ⟨X3, rfl, f2, f4, fun _ => f3⟩
      · rw [if_pos (show nI (p / 8) ≤ 0 by rw [show p / 8 = 0 by omega]; decide)]
        exact ⟨X2, rfl, w2, zKp.rf, fun z => absurd z.2 q2⟩
    · rw [if_neg (show ¬ nI (p % 8) = nI g from fun z => q ((nI_eq (by omega) (by omega)).mp z))]
      exact ⟨X2, rfl, w2, zKp.rf, fun z => absurd z.1 q⟩
  obtain ⟨X3, e3, w3, k3, h3⟩ := st3
  have k13 := k12.tr k3
  rw [e3, zb_s, may8 (J := X3) (C := C) (R := R) (by rw [k13.row]; exact hT) hi hp, zb_s]
  obtain ⟨X4, e4, w4, k4, h4⟩ := steps252 (R := R (p / 8) ∧ p % 8 = sm ∧ p / 8 < 4) w3 hd hp (fun to ht hc => hS _ (mk5 to ht hc))
  rw [e4, zb_s]
  refine ⟨X4, rfl, w4, fun y hy => ?_⟩
  obtain ⟨y1, y2⟩ := (hE y).mp hy
  rcases y2 with ⟨(⟨a, b⟩ | ⟨a, b, c⟩ | ⟨a, b, c⟩), e⟩ | ⟨a, b, c, d2, e⟩ | ⟨a, b, c, e⟩
  · have := (h1 (y / 8 % 8) (by omega) b).1
    rw [show 8 * (8 * (p / 8) + y / 8 % 8) + r = y by omega] at this
    exact k4.1 _ y1 (k3.1 _ y1 (k2.1 _ y1 this))
  · rw [z8] at a
    rw [z9] at c
    have := h2 ⟨a, b⟩
    rw [show 8 * (8 * (p / 8 + 1) + g) + r = y by omega] at this
    exact k4.1 _ y1 (k3.1 _ y1 this)
  · rw [z9] at a
    rw [z8] at c
    have := h3 ⟨a, b⟩
    rw [show 8 * (8 * (p / 8 - 1) + sm) + r = y by omega] at this
    exact k4.1 _ y1 this
  · have := (h1 (y / 8 % 8) (by omega) d2).2 ⟨a, b⟩
    rw [show 8 * (8 * (p / 8) + y / 8 % 8) + y / 8 % 8 = y by omega] at this
    exact k4.1 _ y1 (k3.1 _ y1 (k2.1 _ y1 this))
  · have := h4 (y % 8) (by omega) ⟨a, b, c⟩
    rw [show 8 * p + y % 8 = y by omega] at this
    exact this
