/-! all that is come to: the whole search of the reference -/
theorem zQ.same {E : Nat → Nat → Prop} {s qn : Nat} {J J' : zI} (h : zQ E s J qn) (e9 : J' 50 9 = J 50 9) (e56 : J' 56 = J 56) (e57 : J' 57 = J 57) : zQ E s J' qn := by
  unfold zQ qst quu at h ⊢
  rw [e9, e56, e57]
  exact h
theorem clear8 (J : zI) : ∃ Y : zI, zit gX8_walksAll_3 1000 (0, J) = some Y ∧ (∀ x : Nat, x < 320 → Y 56 x = (-1)) ∧ ∀ c : Nat, c ≠ 56 → Y c = J c := by
  refine zit_one (fun k y => ∃ (j : Nat) (X : zI), j ≤ 320 ∧ k = 320 - j ∧ y = (nI j, X) ∧ (∀ x : Nat, x < j → X 56 x = (-1)) ∧ ∀ c : Nat, c ≠ 56 → X c = J c) (fun Y : zI => (∀ x : Nat, x < 320 → Y 56 x = (-1)) ∧ ∀ c : Nat, c ≠ 56 → Y c = J c) ?_ 1000 320 (0, J) ⟨0, J, by omega, rfl, rfl, fun x h => absurd h (by omega), fun _ _ => rfl⟩ (by omega)
  rintro k y ⟨j, X, hj, rfl, rfl, h1, h2⟩
  unfold gX8_walksAll_3
  dsimp only
  by_cases q : j = 320
  · subst q
    right
    rw [if_pos (show (320 : Int32) ≤ nI 320 from Int32.le_refl _)]
    exact ⟨X, rfl, h1, h2⟩
  left
  have hj2 : j < 320 := by omega
  rw [if_neg (show ¬ (320 : Int32) ≤ nI j from zz_nle (b := 320) (by omega) hj2), zg_k _ hj2, zn_k (show j < 2 ^ 31 by omega), zl_s, zl_s, nI_1]
  refine ⟨_, 320 - (j + 1), rfl, by omega, j + 1, _, by omega, rfl, rfl, fun x hx => ?_, fun c hc => (zup_ne hc).trans (h2 c hc)⟩
  rw [zup_at]
  by_cases z : x = j
  · rw [if_pos ⟨rfl, z⟩]
  · rw [if_neg (fun w => z w.2)]; exact h1 x (by omega)
theorem zQ.done {S : Nat → Int32} {C R : Nat → Prop} {s qn : Nat} {X : zI} (hs : s < 320) (hQ : zQ (zE S C R) s X qn) (h0 : zHi 0 X s) (hc : ∀ i : Nat, i < qn → ∀ y : Nat, zE S C R (quu X i) y → zHi (qst X (quu X i) + 1) X y) : ∀ x : Nat, x < 320 → zDi (zE S C R) s x (X 56 x) := by
  have hle := hQ.le
  obtain ⟨h1, h2, h3, h4, h5⟩ := hQ
  have key : ∀ k x : Nat, zRe (zE S C R) s k x → x < 320 ∧ zHi k X x := by
    intro k
    induction k with
    | zero =>
      intro x hx
      have e : x = s := hx
      subst e
      exact ⟨hs, h0⟩
    | succ k ih =>
      rintro x (hx | ⟨y, hy, he⟩)
      · obtain ⟨a, b⟩ := ih x hx
        exact ⟨a, b.1, Nat.le_succ_of_le b.2⟩
      · obtain ⟨a, b⟩ := ih y hy
        obtain ⟨_, _, i, hi, e⟩ := h4 y a b.1
        have g := hc i hi x (by rw [e]; exact he)
        rw [e] at g
        have b2 := b.2
        exact ⟨he.2.1, g.1, by have := g.2; omega⟩
  intro x hx
  by_cases q : X 56 x = (-1)
  · exact Or.inl ⟨q, fun k hk => (key k x hk).2.1 q⟩
  · obtain ⟨a, b, i, hi, e⟩ := h4 x hx q
    have := (h3 i hi).2.2.2
    rw [e] at this
    refine Or.inr ⟨qst X x, by omega, a, b, fun j hj hr => ?_⟩
    have := (key j x hr).2.2
    omega
theorem walk_loop {i s : Nat} {J J2 : zI} {a2 a3 : Int32} {C R : Nat → Prop} (hF : zWF (J 51)) (hT : zTh (J 51) i a2 a3 C R) (hi : i < 4) (hs : s < 320) {q2 : Nat} (hQ2 : zQ (zE (J 51) C R) s J2 q2) (h10 : J2 50 10 = nI 0) (hB2 : ∀ k : Nat, k < q2 → qst J2 (quu J2 k) ≤ 0) (hH2 : zHi 0 J2 s) (hFr : zFr J J2) : ∃ J' : zI, zit (gX8_walksAll_66 1000 (nI i) a2 a3) 1000 J2 = some J' ∧ (∀ x : Nat, x < 320 → zDi (zE (J 51) C R) s x (J' 56 x)) ∧ zFr J J' := by
  refine zit_one (fun k (X : zI) => ∃ dn qn : Nat, k = 320 - dn ∧ X 50 10 = nI dn ∧ dn ≤ qn ∧ zQ (zE (J 51) C R) s X qn ∧ (∀ i : Nat, i < dn → ∀ y : Nat, zE (J 51) C R (quu X i) y → zHi (qst X (quu X i) + 1) X y) ∧ (dn < qn → ∀ i : Nat, i < qn → qst X (quu X i) ≤ qst X (quu X dn) + 1) ∧ zHi 0 X s ∧ zFr J X) (fun J' : zI => (∀ x : Nat, x < 320 → zDi (zE (J 51) C R) s x (J' 56 x)) ∧ zFr J J') ?_ 1000 320 J2 ⟨0, q2, by omega, h10, by omega, hQ2, fun i h => absurd h (by omega), fun _ k hk => Nat.le_trans (hB2 k hk) (Nat.zero_le _), hH2, hFr⟩ (by omega)
  rintro k X ⟨dn, qn, rfl, h10, hdq, hQ, hC, hB, hH, hf⟩
  have hle := hQ.le
  have e9 := hQ.1
  unfold gX8_walksAll_66
  rw [e9, h10]
  by_cases q : dn = qn
  · subst q
    right
    rw [if_pos (Int32.le_refl _)]
    exact ⟨X, rfl, zQ.done hs hQ hH hC, hf⟩
  left
  have hdn : dn < qn := by omega
  obtain ⟨x1, x2, x3, x4⟩ := hQ.2.2.1 dn hdn
  obtain ⟨x5, x6, -⟩ := hQ.2.2.2.1 _ x1 x3
  rw [if_neg (zz_nle (by omega) hdn), zg_k _ (show dn < 320 by omega), zn_k (show dn < 2 ^ 31 by omega), zl_s, zl_s, x2, zg_k _ x1, zn_k (show quu X dn < 2 ^ 31 by omega), nI_1, zup_ne (j := 56) (by omega), x5, nI_1, show nI (quu X dn) / (8 : Int32) = nI (quu X dn / 8) from pk_div (d := 8) (by omega) (by omega) (by omega), show zrem (nI (quu X dn)) 8 = nI (quu X dn % 8) from zrem_k (m := 8) (by omega) (by omega) (by omega)]
  have e51 : zup X 50 10 (nI (dn + 1)) 51 = J 51 := (zup_ne (by omega)).trans (funext fun s => hf 51 s (by omega) (by omega) (by omega))
  have ex : 8 * (quu X dn / 8) + quu X dn % 8 = quu X dn := Nat.div_add_mod _ _
  have hQ3 : zQ (zE (J 51) C R) s (zup X 50 10 (nI (dn + 1))) qn := hQ.same (zup_r (by omega)) (zup_ne (by omega)) (zup_ne (by omega))
  have hst : ∀ y : Nat, qst (zup X 50 10 (nI (dn + 1))) y = qst X y := fun y => by unfold qst; rw [zup_ne (by omega)]
  have hqu : ∀ y : Nat, quu (zup X 50 10 (nI (dn + 1))) y = quu X y := fun y => by unfold quu; rw [zup_ne (by omega)]
  have h50 : zup X 50 10 (nI (dn + 1)) 50 10 = nI (dn + 1) := zup_s
  have hfr : zFr J (zup X 50 10 (nI (dn + 1))) := fun c s c1 c2 c3 => (zup_r (by omega)).trans (hf c s c1 c2 c3)
  have hhi : ∀ d y : Nat, zHi d X y → zHi d (zup X 50 10 (nI (dn + 1))) y := fun d y h => by
    unfold zHi
    rw [hst, zup_ne (by omega)]
    exact h
  generalize zup X 50 10 (nI (dn + 1)) = Y at *
  obtain ⟨J', f1, f2, f3⟩ := stepsFrom8 (s := s) (d := qst X (quu X dn) + 1) (i := i) (p := quu X dn / 8) (r := quu X dn % 8) (J := Y) (a2 := a2) (a3 := a3) (C := C) (R := R) (by rw [e51]; exact hF) (by rw [e51]; exact hQ3) (fun k hk => by rw [hqu, hst]; exact hB hdn k hk) (by omega) (by rw [e51]; exact hT) hi (by omega) (by omega) (fun y hy => by
    rw [e51] at hy ⊢
    rw [ex] at hy
    exact Or.inr ⟨_, x6, hy⟩)
  rw [e51] at f2 f3
  rw [ex] at f3
  rw [f1, zb_s]
  obtain ⟨qn', g1, g2, g3, g4⟩ := f2
  have su : ∀ k : Nat, k < qn → quu J' k = quu X k := fun k hk => by
    unfold quu
    rw [g4.2.1 k hk]
    exact hqu k
  have ss : ∀ k : Nat, k < qn → qst J' (quu J' k) = qst X (quu X k) := fun k hk => by
    rw [su k hk]
    obtain ⟨a, b, c, e⟩ := hQ.2.2.1 k hk
    have := g4.1 (quu X k) a (hhi 320 _ ⟨c, by omega⟩).1
    unfold qst
    rw [this]
    exact hst _
  refine ⟨J', 320 - (dn + 1), rfl, by omega, dn + 1, qn', by omega, g4.2.2.1.trans h50, by omega, g1, fun k hk y hy => ?_, fun hd2 k hk => ?_, g4.hi hs (hhi 0 s hH), fun c s c1 c2 c3 => (g4.2.2.2 c s c1 c2 c3).trans (hfr c s c1 c2 c3)⟩
  · rw [ss k (by omega)]
    rw [su k (by omega)] at hy
    by_cases z : k = dn
    · subst z
      exact f3 y hy
    · exact g4.hi hy.2.1 (hhi _ _ (hC k (by omega) y hy))
  · have h1 := g3 k hk
    have h2 := g1.2.2.2.2 dn (dn + 1) (by omega) hd2
    rw [ss dn hdn] at h2
    omega
theorem walksAll8 {i p r : Nat} {J : zI} {a2 a3 : Int32} {C R : Nat → Prop} (hF : zWF (J 51)) (hT : zTh (J 51) i a2 a3 C R) (hi : i < 4) (hp : p < 40) (hr : r < 8) (ep : J 51 (52 + i) = nI p) (er : (a2 = (-1) ∧ r = 0) ∨ ∃ t : Nat, t < 8 ∧ a2 = nI t ∧ J 51 (36 + t) = nI r) : ∃ J' : zI, fX8_walksAll 1000 (nI i) a2 a3 J = some J' ∧ (∀ x : Nat, x < 320 → zDi (zE (J 51) C R) (8 * p + r) x (J' 56 x)) ∧ zFr J J' := by
  obtain ⟨Y, e1, y1, y2⟩ := clear8 J
  unfold fX8_walksAll
  rw [e1, zb_s, zl_s, zl_s, show (52 : Int32) + nI i = nI (52 + i) from nI_add 52 i, zg_k _ (show 52 + i < 120 by omega), zn_k (show 52 + i < 2 ^ 31 by omega)]
  obtain ⟨Z, hZ⟩ : ∃ Z : zI, Z = zup (zup Y 50 9 0) 50 10 0 := ⟨_, rfl⟩
  rw [← hZ]
  have z56 : ∀ x : Nat, x < 320 → Z 56 x = (-1) := fun x hx => by rw [hZ, zup_ne (by omega), zup_ne (by omega)]; exact y1 x hx
  have z51 : Z 51 = J 51 := by rw [hZ, zup_ne (by omega), zup_ne (by omega)]; exact y2 51 (by omega)
  have z9 : Z 50 9 = nI 0 := by rw [hZ, zup_r (by omega), zup_s]; rfl
  have z10 : Z 50 10 = nI 0 := by rw [hZ, zup_s]; rfl
  have zf : zFr J Z := fun c s c1 c2 c3 => by rw [hZ, zup_r (by omega), zup_r (by omega), y2 c c1]
  clear hZ
  have hx14 : (if 0 ≤ a2 then zg (36 + a2) 120 (some (Z 51 (zn (36 + a2)))) else some 0) = some (nI r) := by
    rcases er with ⟨rfl, rfl⟩ | ⟨t, ht, rfl, e⟩
    · rw [if_neg (by decide)]; rfl
    · rw [if_pos (nI_pos' (by omega)), show (36 : Int32) + nI t = nI (36 + t) from nI_add 36 t, zg_k _ (show 36 + t < 120 by omega), zn_k (show 36 + t < 2 ^ 31 by omega), z51, e]
  rw [hx14, zb_s, z51, ep]
  have hQ0 : zQ (zE (J 51) C R) (8 * p + r) Z 0 := by
    refine ⟨z9, (fb_ct_zero.mpr fun k hk => ?_).symm, fun k hk => absurd hk (by omega), fun x hx hv => absurd (z56 x hx) hv, fun k j _ hj => absurd hj (by omega)⟩
    exact decide_eq_false (fun z => z (z56 k hk))
  obtain ⟨J2, q2, f1, f2, f3, f4, f5, f6⟩ := finds8 (d := 0) (x := 8 * p + r) (a1 := nI p) (a2 := nI r) hQ0 (by omega) (by omega) rfl (fun k hk => absurd hk (by omega)) (ix_2 p r)
  rw [show fX8_finds (nI p) (nI r) 0 Z = some J2 from f1, zb_s]
  obtain ⟨J', g1, g2, g3⟩ := walk_loop hF hT hi (show 8 * p + r < 320 by omega) f2 (f6.2.2.1.trans z10) f4 f5 (fun c s c1 c2 c3 => (f6.2.2.2 c s c1 c2 c3).trans (zf c s c1 c2 c3))
  rw [g1, zb_s]
  exact ⟨J', rfl, g2, g3⟩
