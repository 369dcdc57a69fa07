/-! a World becomes another -/
def zcp (w a : Nat) (I : zI) (D : Nat → Nat → Bool) : zI := fun c s => if w ≤ c ∧ c ≤ w + 8 ∧ D (c - w) s = true then I (c - w + a) s else I c s
theorem zcp_a {w a : Nat} {I : zI} {D : Nat → Nat → Bool} (hw : w + 8 < a ∨ a + 8 < w) {k s : Nat} (hk : k ≤ 8) : zcp w a I D (a + k) s = I (a + k) s := by
  unfold zcp; rw [if_neg (by omega)]
theorem zcp_0 (w a : Nat) (I : zI) : zcp w a I (fun _ _ => false) = I := by
  funext c s
  unfold zcp
  rw [if_neg (fun q => absurd (show false = true from q.2.2) Bool.false_ne_true)]
theorem zcp_add {w a : Nat} {I : zI} {D E : Nat → Nat → Bool} {c t : Nat} (h : w ≤ c → E (c - w) t = false) : zcp w a I D c t = zcp w a I (fun c t => D c t || E c t) c t := by
  unfold zcp
  have e : (w ≤ c ∧ c ≤ w + 8 ∧ D (c - w) t = true) ↔ (w ≤ c ∧ c ≤ w + 8 ∧ (D (c - w) t || E (c - w) t) = true) := by
    constructor
    · rintro ⟨h1, h2, h3⟩; exact ⟨h1, h2, by rw [h3]; rfl⟩
    · rintro ⟨h1, h2, h3⟩
      rw [h h1, Bool.or_false] at h3
      exact ⟨h1, h2, h3⟩
  by_cases z : (w ≤ c ∧ c ≤ w + 8 ∧ D (c - w) t = true)
  · rw [if_pos z, if_pos (e.mp z)]
  · rw [if_neg z, if_neg (fun y => z (e.mpr y))]
theorem zcp_in {w a : Nat} {I : zI} {D E : Nat → Nat → Bool} {k t : Nat} (hk : k ≤ 8) (h : E k t = true) : zcp w a I (fun c t => D c t || E c t) (w + k) t = I (a + k) t := by
  unfold zcp
  rw [if_pos ⟨by omega, by omega, by rw [Nat.add_sub_cancel_left]; show (D k t || E k t) = true; rw [h, Bool.or_true]⟩, Nat.add_sub_cancel_left, Nat.add_comm k a]
theorem zcp_up {w a : Nat} {I : zI} {D : Nat → Nat → Bool} (hw : w + 8 < a ∨ a + 8 < w) {s : Nat} : zup (zcp w a I D) w s (zcp w a I D a s) = zcp w a I (fun c t => D c t || (decide (c = 0) && decide (t = s))) := by
  rw [show zcp w a I D a s = I a s from zcp_a hw (k := 0) (by omega)]
  funext c t
  rw [zup_at]
  by_cases q : c = w ∧ t = s
  · rw [if_pos q, q.1, q.2]
    exact (zcp_in (k := 0) (E := fun c t => (decide (c = 0) && decide (t = s))) (by omega) (by simp)).symm
  · rw [if_neg q]
    refine zcp_add (E := fun c t => (decide (c = 0) && decide (t = s))) (fun h => ?_)
    show (decide (c - w = 0) && decide (t = s)) = false
    rw [Bool.and_eq_false_iff, decide_eq_false_iff_not, decide_eq_false_iff_not]
    omega
theorem zcp_set {w a : Nat} {I : zI} {D : Nat → Nat → Bool} (hw : w + 8 < a ∨ a + 8 < w) {k n : Nat} (hk : k ≤ 8) : zset (zcp w a I D) (w + k) (va_cpy (zcp w a I D (a + k)) (zcp w a I D (w + k)) 0 0 n) = zcp w a I (fun c t => D c t || (decide (c = k) && decide (t < n))) := by
  funext c t
  unfold zset
  by_cases q : c = w + k
  · rw [if_pos q, q]
    by_cases z : t < n
    · rw [pk_cpy_in (by omega) (by omega), Nat.zero_add, Nat.sub_zero, zcp_a hw hk]
      exact (zcp_in (E := fun c t => (decide (c = k) && decide (t < n))) hk (by simp [z])).symm
    · rw [pk_cpy_out (by omega)]
      refine zcp_add (E := fun c t => (decide (c = k) && decide (t < n))) (fun h => ?_)
      show (decide (w + k - w = k) && decide (t < n)) = false
      rw [Bool.and_eq_false_iff, decide_eq_false_iff_not, decide_eq_false_iff_not]
      omega
  · rw [if_neg q]
    refine zcp_add (E := fun c t => (decide (c = k) && decide (t < n))) (fun h => ?_)
    show (decide (c - w = k) && decide (t < n)) = false
    rw [Bool.and_eq_false_iff, decide_eq_false_iff_not, decide_eq_false_iff_not]
    omega
theorem become6 {w a : Nat} (hw : w + 8 < a ∨ a + 8 < w) (I : zI) : ∃ D : Nat → Nat → Bool, fX6_become w a I = some (zcp w a I D) ∧ ∀ k : Nat, k < 120 → D (zcm 0 k).1 (zcm 0 k).2 = true := by
  have g8 : ∀ t : Option zI, zgc 0 0 8 8 8 t = t := fun t => by unfold zgc; rw [if_pos (by decide)]
  have g4 : ∀ t : Option zI, zgc 0 0 4 4 4 t = t := fun t => by unfold zgc; rw [if_pos (by decide)]
  have g60 : ∀ t : Option zI, zgc 0 0 60 60 60 t = t := fun t => by unfold zgc; rw [if_pos (by decide)]
  have g10 : ∀ t : Option zI, zgc 0 0 10 10 10 t = t := fun t => by unfold zgc; rw [if_pos (by decide)]
  have n0 : zn 0 = 0 := rfl
  have n8 : zn 8 = 8 := rfl
  have n4 : zn 4 = 4 := rfl
  have n60 : zn 60 = 60 := rfl
  have n10 : zn 10 = 10 := rfl
  have key : ∀ X : zI, X = zcp w a I (fun _ _ => false) → ∃ D : Nat → Nat → Bool, fX6_become w a X = some (zcp w a I D) ∧ ∀ k : Nat, k < 120 → D (zcm 0 k).1 (zcm 0 k).2 = true := by
    intro X hX
    unfold fX6_become
    simp only [n0, n8, n4, n60, n10]
    rw [hX, g8, zl_s, zcp_set hw (by omega), zl_s, zcp_up hw, zl_s, zcp_up hw, zl_s, zcp_up hw, zl_s, zcp_up hw]
    rw [g8, zl_s, zcp_set hw (by omega), g8, zl_s, zcp_set hw (by omega), g8, zl_s, zcp_set hw (by omega), zl_s, zcp_up hw]
    rw [g4, zl_s, zcp_set hw (by omega), g4, zl_s, zcp_set hw (by omega), zl_s, zcp_up hw, zl_s, zcp_up hw, zl_s, zcp_up hw]
    rw [g60, zl_s, zcp_set hw (by omega), zl_s, zcp_up hw, zl_s, zcp_up hw, g10, zl_s, zcp_set hw (by omega)]
    exact ⟨_, rfl, by decide +kernel⟩
  obtain ⟨D, e, h⟩ := key I (zcp_0 w a I).symm
  exact ⟨D, e, h⟩
theorem become_row {w a : Nat} {I : zI} {D : Nat → Nat → Bool} (h : ∀ k : Nat, k < 120 → D (zcm 0 k).1 (zcm 0 k).2 = true) {k : Nat} (hk : k < 120) : rW (zcp w a I D) w k = rW I a k := by
  unfold rW
  rw [zcm_w w k, zcm_w a k]
  show zcp w a I D (w + (zcm 0 k).1) (zcm 0 k).2 = I (a + (zcm 0 k).1) (zcm 0 k).2
  unfold zcp
  have := zcm_range0 k hk
  rw [if_pos ⟨by omega, by omega, by rw [Nat.add_sub_cancel_left]; exact h k hk⟩, Nat.add_sub_cancel_left, Nat.add_comm]
theorem become8 {a b : Nat} (J : zI) : ∃ J', fX8_become 1000 a b J = some J' ∧ (∀ c : Nat, c ≠ b → J' c = J c) ∧ (a ≠ b → ∀ k : Nat, k < 120 → J' b k = J a k) := by
  obtain ⟨r, e1, e2⟩ := zit_one (g := gX8_become_2 a b) (fun k s => ∃ (j : Nat) (X : zI), j ≤ 120 ∧ k = 120 - j ∧ s = (nI j, X) ∧ (∀ c : Nat, c ≠ b → X c = J c) ∧ (a ≠ b → ∀ k : Nat, k < j → X b k = J a k)) (fun X => (∀ c : Nat, c ≠ b → X c = J c) ∧ (a ≠ b → ∀ k : Nat, k < 120 → X b k = J a k)) (by
    rintro k s ⟨j, X, hj, rfl, rfl, h1, h2⟩
    unfold gX8_become_2
    simp only [zl_s, nI_1]
    by_cases q : j = 120
    · subst q
      right
      rw [if_pos (show (120 : Int32) ≤ nI 120 from Int32.le_refl _)]
      exact ⟨X, rfl, h1, h2⟩
    · left
      have hj7 : j < 120 := by omega
      rw [if_neg (show ¬ (120 : Int32) ≤ nI j from zz_nle (b := 120) (by omega) hj7), zg_k _ hj7, zg_k _ hj7, zn_k (show j < 2 ^ 31 by omega)]
      refine ⟨_, 120 - (j + 1), rfl, by omega, j + 1, _, by omega, rfl, rfl, fun c hc => (zup_ne hc).trans (h1 c hc), fun hab k hk => ?_⟩
      by_cases z : k = j
      · rw [z, zup_s, h1 a hab]
      · rw [zup_r (by omega)]; exact h2 hab k (by omega)) 1000 120 (0, J) ⟨0, J, by omega, rfl, rfl, fun _ _ => rfl, fun _ k hk => absurd hk (by omega)⟩ (by omega)
  refine ⟨r, ?_, e2.1, e2.2⟩
  unfold fX8_become
  rw [e1, zb_s]
