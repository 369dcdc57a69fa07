theorem q_text (I J : zI) (h : zRel I J) : ∃ r I' J', fX7_text 1000 I = some (r, I') ∧ fX8_text 1000 J = some (r, J') ∧ zRel I' J' ∧ zO7 I I' ∧ zO8 J J' := by
  obtain ⟨t1, ⟨n, hn, en⟩, t3⟩ := h.2.2.1
  obtain ⟨-, J0, -, b2, -, -, b5, b6⟩ := lend_rel h
  obtain ⟨b, hb⟩ : ∃ b : Nat → Int32, b = I 34 := ⟨_, rfl⟩
  unfold fX7_text fX8_text fX4_parse
  rw [zl_s, zl_s, zl_s, zl_s, zl_s]
  obtain ⟨X5, hX5⟩ : ∃ X5, X5 = zup (zup (zup (zup (zup I 38 4 (I 1 4)) 38 5 (I 1 8)) 38 2 0) 38 3 0) 38 6 (-1) := ⟨_, rfl⟩
  rw [← hX5]
  have x6 : X5 38 6 = (-1) := by rw [hX5, zup_s]
  have x3 : X5 38 3 = 0 := by rw [hX5, zup_r (by omega), zup_s]
  have x1 : X5 38 2 = 0 := by rw [hX5, zup_r (by omega), zup_r (by omega), zup_s]
  have x5 : X5 38 5 = I 1 8 := by rw [hX5, zup_r (by omega), zup_r (by omega), zup_r (by omega), zup_s]
  have x4 : X5 38 4 = I 1 4 := by rw [hX5, zup_r (by omega), zup_r (by omega), zup_r (by omega), zup_r (by omega), zup_s]
  have xo : ∀ c s : Nat, c ≠ 38 → X5 c s = I c s := fun c s hc => by rw [hX5, zup_r (by omega), zup_r (by omega), zup_r (by omega), zup_r (by omega), zup_r (by omega)]
  clear hX5
  obtain ⟨A, T, p, s1, s2, s3, s4, s5, s6, s7⟩ := split7 (b := b) (n := n) (X := X5) ⟨fun k hk => by rw [xo 34 k (by omega), hb], by rw [xo 33 1 (by omega), t1, en], by omega⟩
  have hT : zTs b n T A := ⟨s2, s3, s4, p, s5, s6⟩
  rw [s1, zb_s, b2, zb_s, zl_s, zl_s]
  obtain ⟨Ya, hYa⟩ : ∃ Ya, Ya = zup (zup J0 50 15 0) 50 14 0 := ⟨_, rfl⟩
  rw [← hYa]
  have y14 : Ya 50 14 = nI 0 := by rw [hYa, zup_s]; rfl
  have y15 : Ya 50 15 = 0 := by rw [hYa, zup_r (by omega), zup_s]
  have yo : ∀ c s : Nat, ¬ (c = 50 ∧ (s = 14 ∨ s = 15)) → Ya c s = J0 c s := fun c s hc => by rw [hYa, zup_r (by omega), zup_r (by omega)]
  clear hYa
  have hY : zY b n Ya := ⟨fun k hk => by rw [yo 54 k (by omega), b5 54 (by omega), ← t3 k hk, hb], by rw [yo 50 5 (by omega), b5 50 (by omega), en], by omega⟩
  obtain ⟨Y1, f, t, c1, c2, c3, c4, c5, c6⟩ := next8 hY (Nat.zero_le n) y14
  rw [c1, zb_s]
  have row1 : Y1 51 = J 51 := funext fun s => by rw [c6 51 s (by omega), yo 51 s (by omega), b5 51 (by omega)]
  have hS : zSim b n T A 0 f A Y1 := ⟨fun _ _ _ => rfl, ⟨fun k hk => (c6 54 k (by omega)).trans (hY.1 k hk), (c6 50 5 (by omega)).trans hY.2.1, hY.2.2⟩, by rw [s7 38 3 (by omega) (by omega), x3]; rfl, by rw [s7 38 6 (by omega) (by omega), x6], by rw [c6 50 15 (by omega), y15], Nat.zero_le _, t, at_first hT c2 c3, c4, c5⟩
  obtain ⟨X', Y2, Y', cnt, r1, r2, r3, r4, r5, r6, r7⟩ := text_loop hT (J 51) 31 0 0 f 1000 1000 A Y1 (by omega) (by omega) (by omega) hS (by omega) (by rw [s7 38 2 (by omega) (by omega), x1]; rfl) (by rw [s7 38 4 (by omega) (by omega), x4, row1]; exact h.1.things) (by rw [s7 38 5 (by omega) (by omega), x5, row1]; exact h.1.people) (by rw [row1]; exact h.1.2) row1
  have r1 : zit gX4_parse_37 1000 (1, 0, A) = some X' := r1
  have r3 : zit (gX8_text_24 1000) 1000 (1, Y2) = some (cnt, Y') := r3
  rw [r1, zb_s, r2, zb_s, r3, zb_s]
  dsimp only
  have fX : ∀ c s : Nat, c ≠ 38 → c ≠ 39 → ¬ (35 ≤ c ∧ c ≤ 37) → ¬ (c = 33 ∧ s = 5) → X' c s = I c s := fun c s h1 h2 h3 h4 => by rw [r4 c s h1 h2, s7 c s h3 h4, xo c s h1]
  have fY : ∀ c s : Nat, c ≠ 51 → c ≠ 53 → ¬ (c = 50 ∧ (s = 13 ∨ s = 14 ∨ s = 15)) → Y' c s = J c s := fun c s h1 h2 h3 => by rw [r5 c s h1 h3, c6 c s (by omega), yo c s (by omega), b5 c h2]
  have f53 : ∀ k : Nat, k < 120 → Y' 53 k = J 51 k := fun k hk => by rw [r5 53 k (by omega) (by omega), c6 53 k (by omega), yo 53 k (by omega), b6 k hk]
  have h1 : zRel (zup I 33 1 0) (zup J 50 5 0) := zRel_tape h ⟨by rw [zup_s, zup_s], by rw [zup_s]; exact ⟨0, by omega, rfl⟩, fun k hk => by rw [zup_r (by omega), zup_r (by omega)]; exact t3 k hk⟩ (fun c hc => zup_ne (by omega)) (fun c s h1 h2 => zup_r (by omega))
  have f7 : ∀ c s : Nat, ¬ (35 ≤ c ∧ c ≤ 39) → ¬ (c = 33 ∧ s = 5) → zup X' 33 1 0 c s = zup I 33 1 0 c s := fun c s h1 h2 => by
    rw [zup_at, zup_at, fX c s (by omega) (by omega) (by omega) h2]
  have f8 : ∀ c s : Nat, c ≠ 51 → c ≠ 53 → ¬ (c = 50 ∧ (s = 13 ∨ s = 14 ∨ s = 15)) → ∀ x : Int32, zup (zup Y' 50 15 x) 50 5 0 c s = zup J 50 5 0 c s := fun c s h1 h2 h3 x => by
    rw [zup_at, zup_r (show ¬ (c = 50 ∧ s = 15) by omega), zup_at, fY c s h1 h2 h3]
  rcases r7 with ⟨w6, w15, w13, cf, cf30, wc, wcnt, wI, wF⟩ | ⟨k, f2, t2, k1, k2, k3, k4, k5⟩
  · have hR : zRw 1 (zup X' 33 1 0) J := zRw_congr h.1 (fun c hc1 hc2 => funext fun s => (f7 c s (by omega) (by omega)).trans (zup_r (by omega))) rfl
    obtain ⟨Z, J', v1, v2, v3, v4⟩ := exec7 (X := X') (Z0 := zup X' 33 1 0) cf30 (fun s => zup_r (by omega)) ((zup_r (by omega)).trans wc) hR wI
    have e1 : Z 38 2 = cnt := by rw [v4 38 (by omega), zup_r (by omega), wc, wcnt]
    rw [if_pos w6, zb_s]
    dsimp only
    rw [zl_s, if_pos rfl, v1, zb_s, e1, if_pos w15, if_pos (show Y' 50 5 ≤ Y' 50 13 by rw [fY 50 5 (by omega) (by omega) (by omega), en, w13]; exact Int32.le_refl _), zbs_l, zb_s, zgb_0, zl_s, zl_s, if_pos (by rw [zup_r (by omega), zup_s])]
    refine ⟨_, _, _, rfl, rfl, zRel_world h1 ?_ (fun c s hc => ?_) (fun c s hc => ?_), fun c hc => funext fun s => ?_, fun c hc => funext fun s => ?_⟩
    · exact zRw_congr v2 (fun _ _ _ => rfl) (by rw [zup_ne (by omega), zup_ne (by omega), v3])
    · unfold zcX at hc
      rw [v4 c (by omega)]
      exact f7 c s (by omega) (by omega)
    · unfold zcY at hc
      exact f8 c s (by omega) (by omega) (by omega) 0
    · rw [v4 c (by omega), f7 c s (by omega) (by omega), zup_r (by omega)]
    · rw [f8 c s (by omega) (by omega) (by omega), zup_r (by omega)]
  · have hT2 := hT.2.2.1
    have hn2 : f2 ≤ n := by
      have := k3.here.le
      omega
    have hx : (zbs (if Y' 50 15 = 0 then (if Y' 50 5 ≤ Y' 50 13 then some (.inl 0) else some (.inr ())) else some (.inr ())) fun x34 : Unit => some (1 : Int32)) = some 1 := by
      rcases k5 with k5 | ⟨k5, k6⟩
      · rw [if_neg (by rw [k5]; decide), zbs_r]
      · rw [if_pos k5, if_neg (show ¬ Y' 50 5 ≤ Y' 50 13 by rw [fY 50 5 (by omega) (by omega) (by omega), en, k4]; exact zz_nle (by omega) k6), zbs_r]
    obtain ⟨Z, l1, l2, l3⟩ := lays8b (zup (zup Y' 50 15 1) 50 5 0)
    have e13 : Z 50 13 = nI f2 := by rw [l2 50 (by omega), zup_r (by omega), zup_r (by omega), k4]
    rw [k2, if_neg (nI_nm1 (by omega)), beginAt7 hT r6 k1 k3, zb_s, zb_s]
    dsimp only
    rw [zl_s, if_neg (nI_nm1 (by omega)), hx, zb_s, zgb_1, zl_s, zl_s, if_neg (by rw [zup_r (by omega), zup_s]; decide), l1, zb_s, e13]
    refine ⟨_, _, _, rfl, rfl, zRel_side h1 (fun c s hc => f7 c s (by omega) (by omega)) (fun k hk => ?_) (fun c s hc => ?_), fun c hc => funext fun s => ?_, fun c hc => funext fun s => ?_⟩
    · rw [l3 k hk, zup_r (by omega), zup_r (by omega), zup_r (by omega)]
      exact f53 k hk
    · unfold zcY at hc
      rw [l2 c (by omega)]
      exact f8 c s (by omega) (by omega) (by omega) 1
    · rw [f7 c s (by omega) (by omega), zup_r (by omega)]
    · rw [l2 c (by omega), f8 c s (by omega) (by omega) (by omega), zup_r (by omega)]
