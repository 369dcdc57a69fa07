/-! the reference's start -/
def zokD (j : Nat) (x : Int32) : Bool :=
  if j < 8 then decide (0 ≤ x.toInt ∧ x.toInt < 256) else if j = 8 ∨ j = 9 then decide (0 ≤ x.toInt ∧ x.toInt < 8) else if j = 11 then decide (0 ≤ x.toInt ∧ x.toInt < 9) else if j = 12 then decide (0 ≤ x.toInt ∧ x.toInt < 5) else if j = 17 then decide (0 ≤ x.toInt ∧ x.toInt < 13)
  else if 28 ≤ j ∧ j < 36 then decide (0 ≤ x.toInt ∧ x.toInt < 7) else if 36 ≤ j ∧ j < 44 then decide (0 ≤ x.toInt ∧ x.toInt < 8) else if 44 ≤ j ∧ j < 52 then decide (0 ≤ x.toInt ∧ x.toInt < 61) else if 52 ≤ j ∧ j < 56 then decide (0 ≤ x.toInt ∧ x.toInt < 40) else if 56 ≤ j ∧ j < 60 then decide (0 ≤ x.toInt ∧ x.toInt < 61) else true
theorem zlt_D {n : Nat} {x : Int32} (hn : n < 2 ^ 31) (h : decide (0 ≤ x.toInt ∧ x.toInt < n) = true) : zlt n x := zlt_of hn (of_decide_eq_true h)
theorem zokD_ok {j : Nat} {x : Int32} (h : zokD j x = true) : zok j x := by
  unfold zokD at h
  unfold zok
  by_cases h0 : j < 8
  · rw [if_pos h0] at h ⊢; exact zlt_D (by omega) h
  rw [if_neg h0] at h ⊢
  by_cases h1 : j = 8 ∨ j = 9
  · rw [if_pos h1] at h ⊢; exact zlt_D (by omega) h
  rw [if_neg h1] at h ⊢
  by_cases h2 : j = 11
  · rw [if_pos h2] at h ⊢; exact zlt_D (by omega) h
  rw [if_neg h2] at h ⊢
  by_cases h3 : j = 12
  · rw [if_pos h3] at h ⊢; exact zlt_D (by omega) h
  rw [if_neg h3] at h ⊢
  by_cases h4 : j = 17
  · rw [if_pos h4] at h ⊢; exact zlt_D (by omega) h
  rw [if_neg h4] at h ⊢
  by_cases h5 : 28 ≤ j ∧ j < 36
  · rw [if_pos h5] at h ⊢; exact zlt_D (by omega) h
  rw [if_neg h5] at h ⊢
  by_cases h6 : 36 ≤ j ∧ j < 44
  · rw [if_pos h6] at h ⊢; exact zlt_D (by omega) h
  rw [if_neg h6] at h ⊢
  by_cases h7 : 44 ≤ j ∧ j < 52
  · rw [if_pos h7] at h ⊢; exact zlt_D (by omega) h
  rw [if_neg h7] at h ⊢
  by_cases h8 : 52 ≤ j ∧ j < 56
  · rw [if_pos h8] at h ⊢; exact zlt_D (by omega) h
  rw [if_neg h8] at h ⊢
  by_cases h9 : 56 ≤ j ∧ j < 60
  · rw [if_pos h9] at h ⊢; exact zlt_D (by omega) h
  rw [if_neg h9]
  trivial
def zi_all (J : zI) : Bool := (List.range 120).all (fun k => decide (rW zI0 1 k = J 51 k) && zokD k (J 51 k)) && (List.range 10).all (fun k => decide (J 51 (18 + k) = -1)) && (List.range 8).all (fun a => (List.range 8).all (fun b => decide (zshr (J 51 a) (nI b) &&& 1 = zshr (J 51 b) (nI a) &&& 1))) && decide (J 50 3 = 0) && decide (J 50 5 = 0) && (List.range 120).all (fun k => decide (J 54 k = 0)) && (List.range 7).all (fun k => decide (J 55 k = 0)) && (List.range 4).all (fun k => decide (J 58 k = 0) && decide (J 59 k = 0)) && (List.range 160).all (fun k => decide (J 60 k = 0))
def zi_ok : Bool := match fX8_init 1000 zI0 with
  | none => false
  | some J => zi_all J
theorem zi_yes : zi_ok = true := by decide +kernel
theorem all_range {n : Nat} {p : Nat → Bool} (h : (List.range n).all p = true) {k : Nat} (hk : k < n) : p k = true := List.all_eq_true.mp h k (List.mem_range.mpr hk)
theorem zi_rel {J : zI} (h : zi_all J = true) : zRel zI0 J := by
  unfold zi_all at h
  simp only [Bool.and_eq_true] at h
  obtain ⟨⟨⟨⟨⟨⟨⟨⟨h1, h2⟩, h3⟩, h4⟩, h5⟩, h6⟩, h7⟩, h8⟩, h9⟩ := h
  have g1 : ∀ k : Nat, k < 120 → rW zI0 1 k = J 51 k ∧ zokD k (J 51 k) = true := fun k hk => by
    have := all_range h1 hk
    rw [Bool.and_eq_true] at this
    exact ⟨of_decide_eq_true this.1, this.2⟩
  refine ⟨⟨fun k hk => (g1 k hk).1, fun k hk => zokD_ok (g1 k hk).2, fun k hk => Or.inl (of_decide_eq_true (all_range h2 hk)), fun a b ha hb => ?_⟩, ⟨?_, Or.inl (of_decide_eq_true h4), fun z => ?_⟩, ⟨?_, ?_, fun k hk => ?_⟩, fun k hk => ?_, fun s hs => ?_⟩
  · exact of_decide_eq_true (all_range (all_range h3 ha) hb)
  · rw [of_decide_eq_true h4]; rfl
  · rw [of_decide_eq_true h4] at z; exact absurd z (by decide)
  · rw [of_decide_eq_true h5]; rfl
  · rw [of_decide_eq_true h5]; exact ⟨0, by omega, rfl⟩
  · rw [of_decide_eq_true (all_range h6 hk)]; rfl
  · rw [of_decide_eq_true (all_range h7 hk)]; rfl
  · have := all_range h8 hs
    rw [Bool.and_eq_true] at this
    have a := of_decide_eq_true this.1
    have b := of_decide_eq_true this.2
    rw [a, b]
    have z : ∀ x y : Nat, x < 8 → zI0 (42 + x) y = 0 := fun x y hx => by
      rcases (show x = 0 ∨ x = 1 ∨ x = 2 ∨ x = 3 ∨ x = 4 ∨ x = 5 ∨ x = 6 ∨ x = 7 by omega) with rfl | rfl | rfl | rfl | rfl | rfl | rfl | rfl <;> rfl
    refine ⟨z _ _ (by omega), z _ _ (by omega), fun k hk => ?_, ⟨0, by omega, rfl⟩, Or.inl rfl⟩
    rw [of_decide_eq_true (all_range h9 (k := 40 * s + k) (by omega)), show 43 + 2 * s = 42 + (2 * s + 1) by omega]
    exact z _ _ (by omega)
theorem init_frame (I : zI) : ∃ J, fX8_init 1000 I = some J ∧ ∀ c : Nat, c ≠ 51 → J c = I c := by
  have g8 : ∀ {α : Type} (t : Option α), zg 8 120 t = t := fun t => zg_k (i := 8) t (by decide)
  have g16 : ∀ {α : Type} (t : Option α), zg 16 120 t = t := fun t => zg_k (i := 16) t (by decide)
  have n8 : zn 8 = 8 := rfl
  have n16 : zn 16 = 16 := rfl
  obtain ⟨X, x1, x2⟩ := zit_one (g := gX8_init_95) (fun k y => ∃ (j : Nat) (X : zI), j ≤ 7 ∧ k = 7 - j ∧ y = (nI j, X) ∧ ∀ c : Nat, c ≠ 51 → X c = I c) (fun X : zI => ∀ c : Nat, c ≠ 51 → X c = I c) (by
    rintro k y ⟨j, X, hj, rfl, rfl, hX⟩
    unfold gX8_init_95
    dsimp only
    rw [nI_1]
    by_cases q : j = 7
    · subst q
      right
      rw [if_pos (show (8 : Int32) ≤ nI (7 + 1) by decide)]
      exact ⟨X, rfl, hX⟩
    left
    rw [if_neg (show ¬ (8 : Int32) ≤ nI (j + 1) from zz_nle (b := 8) (by omega) (by omega)), opensDoor8 (show j < 8 by omega) (show j + 1 < 8 by omega), zb_s, zl_s]
    exact ⟨_, 7 - (j + 1), rfl, by omega, j + 1, _, by omega, rfl, rfl, fun c hc => (zup_ne hc).trans ((zup_ne hc).trans (hX c hc))⟩) 1000 7 (0, I) ⟨0, I, by omega, by omega, rfl, fun _ _ => rfl⟩ (by omega)
  obtain ⟨Y, y1, y2⟩ := zit_one (g := gX8_init_136) (fun k y => ∃ (j : Nat) (X : zI), j ≤ 10 ∧ k = 10 - j ∧ y = (nI j, X) ∧ ∀ c : Nat, c ≠ 51 → X c = I c) (fun X : zI => ∀ c : Nat, c ≠ 51 → X c = I c) (by
    rintro k y ⟨j, X, hj, rfl, rfl, hX⟩
    unfold gX8_init_136
    dsimp only
    by_cases q : j = 10
    · subst q
      right
      rw [if_pos (show (10 : Int32) ≤ nI 10 from Int32.le_refl _)]
      exact ⟨X, rfl, hX⟩
    left
    rw [if_neg (show ¬ (10 : Int32) ≤ nI j from zz_nle (b := 10) (by omega) (by omega)), show (18 : Int32) + nI j = nI (18 + j) from nI_add 18 j, zg_k _ (show 18 + j < 120 by omega), zl_s, zl_s, nI_1]
    exact ⟨_, 10 - (j + 1), rfl, by omega, j + 1, _, by omega, rfl, rfl, fun c hc => (zup_ne hc).trans (hX c hc)⟩) 1000 10 (0, zup (zup X 51 8 3) 51 16 1) ⟨0, _, by omega, by omega, rfl, fun c hc => (zup_ne hc).trans ((zup_ne hc).trans (x2 c hc))⟩ (by omega)
  unfold fX8_init
  rw [x1, zb_s, g8, zl_s, g16, zl_s, n8, n16, y1, zb_s]
  exact ⟨Y, rfl, y2⟩
