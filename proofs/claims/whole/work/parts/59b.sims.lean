/-! an item read on both sides -/
theorem word_len : ∀ w : Nat, w < 13 → 3 ≤ zsLen w := by decide
theorem word_tok {b : Nat → Int32} {n T k f w : Nat} {A X Y : zI} (h : zSim b n T A k f X Y) (hw : w < 13) (hm : ∃ t : Nat, zAt b n T A k f t ∧ mt b w f t) : k < T ∧ ∀ t : Nat, zAt b n T A k f t → f + 3 ≤ t := by
  obtain ⟨t, h1, h2⟩ := hm
  have l := word_len w hw
  have e := h2.1
  have hk : k < T := by
    obtain ⟨_, _, _, (⟨z, _⟩ | ⟨_, z1, z2⟩)⟩ := h1
    · exact z
    · omega
  refine ⟨hk, fun t' ht' => ?_⟩
  obtain ⟨_, _, _, (⟨_, z⟩ | ⟨z, _⟩)⟩ := h1
  · obtain ⟨_, _, _, (⟨_, y⟩ | ⟨y, _⟩)⟩ := ht'
    · have := tok_det z y
      omega
    · omega
  · omega
/-- at the word of an item: one token on -/
theorem item_on {b : Nat → Int32} {n T k f c w : Nat} {A X X1 Y : zI} (hT : zTs b n T A) (hP : zPre b n T A k f c X Y) (hw : w < 13) (hm : ∃ t : Nat, zAt b n T A k f t ∧ mt b w f t) (hX : zG7 X X1) (e3 : X1 38 3 = X 38 3) (e6 : X1 38 6 = X 38 6) : ∃ (Y1 : zI) (f1 : Nat), fX8_next 1000 Y = some Y1 ∧ X1 38 3 + 1 = nI (k + 1) ∧ zSim b n T A (k + 1) f1 (zup X1 38 3 (nI (k + 1))) Y1 ∧ zF8 Y Y1 ∧ f + 3 ≤ f1 := by
  have hS := hP.1.mv hX e3 e6 (fun _ _ => rfl)
  obtain ⟨hk, hl⟩ := word_tok hP.1 hw hm
  obtain ⟨Y1, f1, a1, a2, a3, t, a4, a5⟩ := sim_next hT hS hk
  have := hl t a4
  exact ⟨Y1, f1, a1, by rw [hS.2.2.1, nI_1], a2, a3, by omega⟩
theorem thing_sim {b : Nat → Int32} {n T k f c w : Nat} {A X Y : zI} (hT : zTs b n T A) (hP : zPre b n T A k f c X Y) (hw : w < 7) (hm : ∃ t : Nat, zAt b n T A k f t ∧ mt b w f t) : ∃ X' Y', fX4_parseThing (nI w) X = some X' ∧ fX8_thingTold 1000 (nI w) Y = some Y' ∧ zRes b n T A f c X Y X' Y' := by
  have hP' := hP
  obtain ⟨hS, hc, hc1, h4, h5, hF⟩ := hP
  obtain ⟨m, hm9, em⟩ := hF.many
  have g11 : ∀ {α : Type} (t : Option α), zg 11 120 t = t := fun t => zg_k (i := 11) t (by decide)
  have n11 : zn 11 = 11 := rfl
  have x4 : X 38 4 = nI m := h4.trans em
  unfold fX4_parseThing fX8_thingTold
  rw [g11, n11]
  by_cases q8 : m = 8
  · subst q8
    rw [if_neg (show ¬ X 38 4 < 8 by rw [x4]; decide), if_pos (show Y 51 11 = 8 by rw [em]; rfl), zb_s, zgb_1, zl_s, if_neg (by rw [zup_s]; decide)]
    obtain ⟨X', r1, r2, r3⟩ := refuse7 (Y' := zup Y 50 15 1) hS zF8.u15 (zup_r (by omega)) (zup_r (by omega)) zup_s
    rw [r1, zb_s]
    exact ⟨X', _, rfl, rfl, r2.g, zF8.u15.g, ⟨c, by omega, (r2 38 2 (by omega)).trans hc1⟩, Or.inr r3⟩
  have hm8 : m < 8 := by omega
  rw [if_pos (show X 38 4 < 8 by rw [x4]; exact nI_lt (b := 8) hm8 (by omega)), if_neg (show ¬ Y 51 11 = 8 by rw [em]; exact fun z => q8 ((nI_eq (b := 8) (by omega) (by omega)).mp z)), zb_s, zgb_0, zl_s, zl_s, zl_s, zup_self hS.2.2.2.2.1, if_pos hS.2.2.2.2.1, x4, nI_1]
  obtain ⟨Y1, f1, s1, s2, s3, s4, s5⟩ := item_on (X1 := zup X 38 4 (nI (m + 1))) hT hP' (by omega) hm zG7.u4 (zup_r (by omega)) (zup_r (by omega))
  rw [s1, zb_s, s2]
  obtain ⟨X2, hX2⟩ : ∃ X2, X2 = zup (zup X 38 4 (nI (m + 1))) 38 3 (nI (k + 1)) := ⟨_, rfl⟩
  have x24 : X2 38 4 = nI (m + 1) := by rw [hX2, zup_r (by omega), zup_s]
  have x25 : X2 38 5 = X 38 5 := by rw [hX2, zup_r (by omega), zup_r (by omega)]
  have x21 : X2 38 2 = nI c := by rw [hX2, zup_r (by omega), zup_r (by omega)]; exact hc1
  have x39 : ∀ s : Nat, X2 39 s = X 39 s := fun s => by rw [hX2, zup_r (by omega), zup_r (by omega)]
  have gX2 : zG7 X X2 := by rw [hX2]; exact zG7.u4.tr zG7.u4
  rw [← hX2] at s3 ⊢
  clear hX2
  obtain ⟨v1, X3, u1, Y3, a1, a2, a3, a4, a5⟩ := perhaps_sim (cw := 13) (lo := 0) (hi := 7) (els := 0) hT s3 (by omega) (by omega) (by omega)
  have a1 : fX4_takePerhaps 13 0 7 0 X2 = some (v1, X3) := a1
  have a2 : fX8_perhaps 1000 25 0 7 0 Y1 = some (u1, Y3) := a2
  rw [a1, a2, zb_s, zb_s]
  dsimp only
  rcases a5 with ⟨N1, k3, f3, b1, rfl, rfl, b4, b5⟩ | a5
  · obtain ⟨v2, X4, u2, Y4, c1, c2, c3, c4, c5⟩ := perhaps_sim (cw := 14) (lo := 1) (hi := 60) (els := 8) hT b5 (by omega) (by omega) (by omega)
    have c1 : fX4_takePerhaps 14 1 60 8 X3 = some (v2, X4) := c1
    have c2 : fX8_perhaps 1000 26 1 60 8 Y3 = some (u2, Y4) := c2
    rw [c1, c2, zb_s, zb_s]
    dsimp only
    have fX : zF7 X2 X4 := a3.tr c3
    have fY : zF8 Y Y4 := s4.tr (a4.tr c4)
    have row : Y4 51 = Y 51 := funext fun s => fY 51 s (by omega)
    have x41 : X4 38 2 = nI c := (fX 38 2 (by omega)).trans x21
    rcases c5 with ⟨N2, k4, f4, d1, rfl, rfl, d4, d5⟩ | c5
    · obtain ⟨X5, g1, g2, g3, g4, g5, g6, g7, g8, g9⟩ := addItem7 x41 hc 0 (nI w) (nI N1) (nI N2)
      rw [g1, zb_s, if_pos d5.2.2.2.2.1, lays8 (m := m) (by rw [row]; exact em) hm8, zb_s]
      refine ⟨_, _, rfl, rfl, (gX2.tr fX.g).tr g9, fY.g.tr (up51 (fun c hc => by rw [zup_ne hc, zup_ne hc, zup_ne hc, zup_ne hc])), ⟨c + 1, by omega, g2⟩, Or.inl ⟨k4, f4, by omega, d5.mv g9 (g8 3 (by omega)) (g8 6 (by omega)) (fun c hc => by rw [zup_ne hc, zup_ne hc, zup_ne hc, zup_ne hc]), g2, fun s hs => ?_, ?_, ?_, ?_, ?_⟩⟩
      · rw [g7 s hs, fX 39 s (by omega), x39]
      · rw [g8 4 (by omega), fX 38 4 (by omega), x24, zup_s]
      · rw [g8 5 (by omega), fX 38 5 (by omega), x25, zup_r (by omega), zup_r (by omega), zup_r (by omega), zup_r (by omega), row]
        exact h5
      · rw [zup_same, zup_same, zup_same, zup_same, row]
        refine zWF_many (m := m) (zWF_upd (zWF_upd (zWF_upd hF ?_ (by omega)) ?_ (by omega)) ?_ (by omega)) ?_ hm8
        · rw [zok_kind hm8]; exact ⟨w, hw, rfl⟩
        · rw [zok_room hm8]; exact ⟨N1, by omega, rfl⟩
        · rw [zok_bulk hm8]; exact ⟨N2, by omega, rfl⟩
        · unfold upd
          rw [if_neg (by omega), if_neg (by omega), if_neg (by omega)]
          exact em
      · rw [g3, g4, g5, g6, zup_same, zup_same, zup_same, zup_same, row]
        exact Or.inl ⟨rfl, m, w, N1, N2, em, hm8, rfl, hw, rfl, by omega, rfl, by omega, rfl⟩
    · obtain ⟨X5, g1, g2, g3⟩ := b7_add (c5.b7 hT (c := c) (by omega) x41) 0 (nI w) (nI N1) v2
      rw [g1, zb_s, if_neg (show ¬ Y4 50 15 = 0 by rw [c5.2.2.1]; decide)]
      exact ⟨_, _, rfl, rfl, res_bad (c := c) (by omega) (gX2.tr fX.g) fY.g c5 g2 g3⟩
  · have x31 : X3 38 2 = nI c := (a3 38 2 (by omega)).trans x21
    obtain ⟨v2, X4, c1, c2, c3⟩ := b7_perhaps (a5.b7 hT (c := c) (by omega) x31) 14 1 60 8
    obtain ⟨-, -, -, -, -, c4⟩ := bad_perhaps (i := 26) hT a5 (by omega) 14 1 60 8 1 60 8
    obtain ⟨X5, g1, g2, g3⟩ := b7_add c3 0 (nI w) v1 v2
    rw [c1, c4, zb_s, zb_s]
    dsimp only
    rw [g1, zb_s, if_neg (show ¬ Y3 50 15 = 0 by rw [a5.2.2.1]; decide)]
    exact ⟨_, _, rfl, rfl, res_bad (c := c) (by omega) (gX2.tr a3.g) (s4.tr a4).g a5 (c2.tr g2) g3⟩
theorem one_sim {b : Nat → Int32} {n T k f c : Nat} {A X Y : zI} (hT : zTs b n T A) (hP : zPre b n T A k f c X Y) (hm : ∃ t : Nat, zAt b n T A k f t ∧ mt b 7 f t) : ∃ X' Y', fX4_parseOne X = some X' ∧ fX8_oneTold 1000 Y = some Y' ∧ zRes b n T A f c X Y X' Y' := by
  have hP' := hP
  obtain ⟨hS, hc, hc1, h4, h5, hF⟩ := hP
  obtain ⟨m, hm9, em⟩ := hF.folk
  have g12 : ∀ {α : Type} (t : Option α), zg 12 120 t = t := fun t => zg_k (i := 12) t (by decide)
  have n12 : zn 12 = 12 := rfl
  have x5 : X 38 5 = nI m := h5.trans em
  unfold fX4_parseOne fX8_oneTold
  rw [g12, n12]
  by_cases q8 : m = 4
  · subst q8
    rw [if_neg (show ¬ X 38 5 < 4 by rw [x5]; decide), if_pos (show Y 51 12 = 4 by rw [em]; rfl), zb_s, zgb_1, zl_s, if_neg (by rw [zup_s]; decide)]
    obtain ⟨X', r1, r2, r3⟩ := refuse7 (Y' := zup Y 50 15 1) hS zF8.u15 (zup_r (by omega)) (zup_r (by omega)) zup_s
    rw [r1, zb_s]
    exact ⟨X', _, rfl, rfl, r2.g, zF8.u15.g, ⟨c, by omega, (r2 38 2 (by omega)).trans hc1⟩, Or.inr r3⟩
  have hm8 : m < 4 := by omega
  rw [if_pos (show X 38 5 < 4 by rw [x5]; exact nI_lt (b := 4) hm8 (by omega)), if_neg (show ¬ Y 51 12 = 4 by rw [em]; exact fun z => q8 ((nI_eq (b := 4) (by omega) (by omega)).mp z)), zb_s, zgb_0, zl_s, zl_s, zl_s, zup_self hS.2.2.2.2.1, if_pos hS.2.2.2.2.1, x5, nI_1]
  obtain ⟨Y1, f1, s1, s2, s3, s4, s5⟩ := item_on (X1 := zup X 38 5 (nI (m + 1))) (w := 7) hT hP' (by omega) hm zG7.u4 (zup_r (by omega)) (zup_r (by omega))
  rw [s1, zb_s, s2]
  obtain ⟨X2, hX2⟩ : ∃ X2, X2 = zup (zup X 38 5 (nI (m + 1))) 38 3 (nI (k + 1)) := ⟨_, rfl⟩
  have x25 : X2 38 5 = nI (m + 1) := by rw [hX2, zup_r (by omega), zup_s]
  have x24 : X2 38 4 = X 38 4 := by rw [hX2, zup_r (by omega), zup_r (by omega)]
  have x21 : X2 38 2 = nI c := by rw [hX2, zup_r (by omega), zup_r (by omega)]; exact hc1
  have x39 : ∀ s : Nat, X2 39 s = X 39 s := fun s => by rw [hX2, zup_r (by omega), zup_r (by omega)]
  have gX2 : zG7 X X2 := by rw [hX2]; exact zG7.u4.tr zG7.u4
  rw [← hX2] at s3 ⊢
  clear hX2
  obtain ⟨v1, X3, u1, Y3, a1, a2, a3, a4, a5⟩ := perhaps_sim (cw := 13) (lo := 0) (hi := 7) (els := 0) hT s3 (by omega) (by omega) (by omega)
  have a1 : fX4_takePerhaps 13 0 7 0 X2 = some (v1, X3) := a1
  have a2 : fX8_perhaps 1000 25 0 7 0 Y1 = some (u1, Y3) := a2
  rw [a1, a2, zb_s, zb_s]
  dsimp only
  rcases a5 with ⟨N1, k3, f3, b1, rfl, rfl, b4, b5⟩ | a5
  · obtain ⟨v2, X4, u2, Y4, c1, c2, c3, c4, c5⟩ := perhaps_sim (cw := 15) (lo := 0) (hi := 4) (els := 0) hT b5 (by omega) (by omega) (by omega)
    have c1 : fX4_takePerhaps 15 0 4 0 X3 = some (v2, X4) := c1
    have c2 : fX8_perhaps 1000 27 0 4 0 Y3 = some (u2, Y4) := c2
    rw [c1, c2, zb_s, zb_s]
    dsimp only
    rcases c5 with ⟨N2, k4, f4, d1, rfl, rfl, d4, d5⟩ | c5
    · obtain ⟨v3, X6, u3, Y6, e1, e2, e3, e4, e5⟩ := perhaps_sim (cw := 16) (lo := 0) (hi := 60) (els := 10) hT d5 (by omega) (by omega) (by omega)
      have e1 : fX4_takePerhaps 16 0 60 10 X4 = some (v3, X6) := e1
      have e2 : fX8_perhaps 1000 28 0 60 10 Y4 = some (u3, Y6) := e2
      rw [e1, e2, zb_s, zb_s]
      dsimp only
      have fX : zF7 X2 X6 := (a3.tr c3).tr e3
      have fY : zF8 Y Y6 := s4.tr ((a4.tr c4).tr e4)
      have row : Y6 51 = Y 51 := funext fun s => fY 51 s (by omega)
      have x61 : X6 38 2 = nI c := (fX 38 2 (by omega)).trans x21
      rw [ix_2, show nI N2 * (8 : Int32) + nI N1 = nI (8 * N2 + N1) by rw [show nI N2 * (8 : Int32) = nI (N2 * 8) from pk_mul N2 8, nI_add, Nat.mul_comm]]
      rcases e5 with ⟨N3, k6, f6, p1, rfl, rfl, p4, p5⟩ | e5
      · obtain ⟨X5, g1, g2, g3, g4, g5, g6, g7, g8, g9⟩ := addItem7 x61 hc 1 (nI (8 * N2 + N1)) (nI N3) 0
        rw [g1, zb_s, if_pos p5.2.2.2.2.1, comes8 (m := m) (by rw [row]; exact em) hm8, zb_s]
        refine ⟨_, _, rfl, rfl, (gX2.tr fX.g).tr g9, fY.g.tr (up51 (fun c hc => by rw [zup_ne hc, zup_ne hc, zup_ne hc])), ⟨c + 1, by omega, g2⟩, Or.inl ⟨k6, f6, by omega, p5.mv g9 (g8 3 (by omega)) (g8 6 (by omega)) (fun c hc => by rw [zup_ne hc, zup_ne hc, zup_ne hc]), g2, fun s hs => ?_, ?_, ?_, ?_, ?_⟩⟩
        · rw [g7 s hs, fX 39 s (by omega), x39]
        · rw [g8 4 (by omega), fX 38 4 (by omega), x24, zup_r (by omega), zup_r (by omega), zup_r (by omega), row]
          exact h4
        · rw [g8 5 (by omega), fX 38 5 (by omega), x25, zup_s]
        · rw [zup_same, zup_same, zup_same, row]
          refine zWF_upd (zWF_upd (zWF_upd hF ?_ (by omega)) ?_ (by omega)) (show zlt 5 _ from ⟨m + 1, by omega, rfl⟩) (by omega)
          · rw [zok_place hm8]; exact ⟨8 * N2 + N1, by omega, rfl⟩
          · rw [zok_strength hm8]; exact ⟨N3, by omega, rfl⟩
        · rw [g3, g4, g5, g6, zup_same, zup_same, zup_same, row]
          exact Or.inr (Or.inl ⟨rfl, m, 8 * N2 + N1, N3, em, hm8, rfl, by omega, rfl, by omega, rfl⟩)
      · obtain ⟨X5, g1, g2, g3⟩ := b7_add (e5.b7 hT (c := c) (by omega) x61) 1 (nI (8 * N2 + N1)) v3 0
        rw [g1, zb_s, if_neg (show ¬ Y6 50 15 = 0 by rw [e5.2.2.1]; decide)]
        exact ⟨_, _, rfl, rfl, res_bad (c := c) (by omega) (gX2.tr fX.g) fY.g e5 g2 g3⟩
    · have fX : zF7 X2 X4 := a3.tr c3
      have x41 : X4 38 2 = nI c := (fX 38 2 (by omega)).trans x21
      obtain ⟨v3, X6, e1, e2, e3⟩ := b7_perhaps (c5.b7 hT (c := c) (by omega) x41) 16 0 60 10
      obtain ⟨-, -, -, -, -, e4⟩ := bad_perhaps (i := 28) hT c5 (by omega) 16 0 60 10 0 60 10
      obtain ⟨X5, g1, g2, g3⟩ := b7_add e3 1 ((v2 * 8) + nI N1) v3 0
      rw [e1, e4, zb_s, zb_s]
      dsimp only
      rw [g1, zb_s, if_neg (show ¬ Y4 50 15 = 0 by rw [c5.2.2.1]; decide)]
      exact ⟨_, _, rfl, rfl, res_bad (c := c) (by omega) (gX2.tr fX.g) (s4.tr (a4.tr c4)).g c5 (e2.tr g2) g3⟩
  · have x31 : X3 38 2 = nI c := (a3 38 2 (by omega)).trans x21
    obtain ⟨v2, X4, c1, c2, c3⟩ := b7_perhaps (a5.b7 hT (c := c) (by omega) x31) 15 0 4 0
    obtain ⟨v3, X6, e1, e2, e3⟩ := b7_perhaps c3 16 0 60 10
    obtain ⟨-, -, -, -, -, c4⟩ := bad_perhaps (i := 27) hT a5 (by omega) 15 0 4 0 0 4 0
    obtain ⟨-, -, -, -, -, e4⟩ := bad_perhaps (i := 28) hT a5 (by omega) 16 0 60 10 0 60 10
    obtain ⟨X5, g1, g2, g3⟩ := b7_add e3 1 ((v2 * 8) + v1) v3 0
    rw [c1, c4, zb_s, zb_s]
    dsimp only
    rw [e1, e4, zb_s, zb_s]
    dsimp only
    rw [g1, zb_s, if_neg (show ¬ Y3 50 15 = 0 by rw [a5.2.2.1]; decide)]
    exact ⟨_, _, rfl, rfl, res_bad (c := c) (by omega) (gX2.tr a3.g) (s4.tr a4).g a5 ((c2.tr e2).tr g2) g3⟩
/-- a door's item, behind its word -/
theorem door_sim {b : Nat → Int32} {n T k f c w o : Nat} {A X Y : zI} (hT : zTs b n T A) (hP : zPre b n T A k f c X Y) (hw : w < 13) (ho : o < 2) (hm : ∃ t : Nat, zAt b n T A k f t ∧ mt b w f t) : ∃ Y1, fX8_next 1000 Y = some Y1 ∧ ∃ X' Y', fX4_parseDoor (nI o) X = some X' ∧ fX8_doorTold 1000 (nI o) Y1 = some Y' ∧ zRes b n T A f c X Y X' Y' := by
  have hP' := hP
  obtain ⟨hS, hc, hc1, h4, h5, hF⟩ := hP
  obtain ⟨Y1, f1, s1, s2, s3, s4, s5⟩ := item_on (X1 := X) (w := w) hT hP' hw hm zG7.rf rfl rfl
  refine ⟨Y1, s1, ?_⟩
  unfold fX4_parseDoor fX8_doorTold
  rw [zl_s, s2]
  obtain ⟨X2, hX2⟩ : ∃ X2, X2 = zup X 38 3 (nI (k + 1)) := ⟨_, rfl⟩
  have x2s : ∀ s : Nat, s ≠ 3 → X2 38 s = X 38 s := fun s hs => by rw [hX2, zup_r (by omega)]
  have x39 : ∀ s : Nat, X2 39 s = X 39 s := fun s => by rw [hX2, zup_r (by omega)]
  have gX2 : zG7 X X2 := by rw [hX2]; exact zG7.u4
  have x21 : X2 38 2 = nI c := (x2s 2 (by omega)).trans hc1
  rw [← hX2] at s3 ⊢
  clear hX2
  obtain ⟨v1, X3, u1, Y3, a1, a2, a3, a4, a5⟩ := num_plain (hi := 7) hT s3 (by omega)
  have a1 : fX4_takeNumber 0 7 (-1) X2 = some (v1, X3) := a1
  have a2 : fX8_number 1000 7 Y1 = some (u1, Y3) := a2
  rw [a1, a2, zb_s, zb_s]
  dsimp only
  rcases a5 with ⟨N1, f3, b1, rfl, rfl, b4, b5⟩ | a5
  · obtain ⟨lv, l1, l2, l3⟩ := num_core (lo := 0) (hi := 7) (bar := nI N1) hT b5 (by omega) (by omega)
    have e15 : Y3 50 15 = 0 := b5.2.2.2.2.1
    obtain ⟨x, hx, hx2⟩ : ∃ x : Int32, (zbs (if Y3 50 15 = 0 then zb (fX8_numberHere 1000 Y3) fun o13 => if o13 = nI N1 then some (.inr ()) else some (.inl 0) else some (.inr ())) fun x8 : Unit => some (1 : Int32)) = some x ∧ ((x = 0 ∧ ¬ lv = nI N1) ∨ (x = 1 ∧ lv = nI N1)) := by
      rw [if_pos e15, l1, zb_s]
      by_cases z : lv = nI N1
      · rw [if_pos z, zbs_r]; exact ⟨1, rfl, Or.inr ⟨rfl, z⟩⟩
      · rw [if_neg z, zbs_l]; exact ⟨0, rfl, Or.inl ⟨rfl, z⟩⟩
    obtain ⟨v2, X4, u2, Y4, c1, c2, c3, c4, c5⟩ := l3 x (hx2.imp (fun z => z.1) (fun z => z.1)) ⟨fun z => ⟨z.2, by
      rcases hx2 with ⟨_, y⟩ | ⟨y, _⟩
      · exact y
      · rw [y] at z; exact absurd z.1 (by decide)⟩, fun z => ⟨by
      rcases hx2 with ⟨y, _⟩ | ⟨_, y⟩
      · exact y
      · exact absurd y z.2, z.1⟩⟩
    have c1 : fX4_takeNumber 0 7 (nI N1) X3 = some (v2, X4) := c1
    have c2 : fX8_number 1000 7 (zup Y3 50 15 x) = some (u2, Y4) := c2
    have gx : ∀ t : Option zI, zgb x t = t := fun t => by
      rcases hx2 with ⟨y, _⟩ | ⟨y, _⟩
      · rw [y]; exact zgb_0 t
      · rw [y]; exact zgb_1 t
    rw [c1, hx, zb_s, zb_s, gx, zl_s, c2, zb_s]
    dsimp only
    have fX : zF7 X2 X4 := a3.tr c3
    have fY : zF8 Y Y4 := s4.tr (a4.tr c4)
    have row : Y4 51 = Y 51 := funext fun s => fY 51 s (by omega)
    have x41 : X4 38 2 = nI c := (fX 38 2 (by omega)).trans x21
    rcases c5 with ⟨N2, f4, d1, d2, rfl, rfl, d4, d5⟩ | c5
    · obtain ⟨X5, g1, g2, g3, g4, g5, g6, g7, g8, g9⟩ := addItem7 x41 hc 2 (nI N1) (nI N2) (nI o)
      rw [g1, zb_s, if_pos d5.2.2.2.2.1, opensDoor8 (show N1 < 8 by omega) (show N2 < 8 by omega), zb_s]
      refine ⟨_, _, rfl, rfl, (gX2.tr fX.g).tr g9, fY.g.tr (up51 (fun c hc => by rw [zup_ne hc, zup_ne hc])), ⟨c + 1, by omega, g2⟩, Or.inl ⟨k + 1 + 1 + 1, f4, by omega, d5.mv g9 (g8 3 (by omega)) (g8 6 (by omega)) (fun c hc => by rw [zup_ne hc, zup_ne hc]), g2, fun s hs => ?_, ?_, ?_, ?_, ?_⟩⟩
      · rw [g7 s hs, fX 39 s (by omega), x39]
      · rw [g8 4 (by omega), fX 38 4 (by omega), x2s 4 (by omega), zup_r (by omega), zup_r (by omega), row]
        exact h4
      · rw [g8 5 (by omega), fX 38 5 (by omega), x2s 5 (by omega), zup_r (by omega), zup_r (by omega), row]
        exact h5
      · rw [door8_row, row]
        exact zWF_door hF (by omega) (by omega) _
      · rw [g3, g4, g5, g6, door8_row, row]
        refine Or.inr (Or.inr (Or.inl ⟨rfl, N1, N2, rfl, by omega, rfl, by omega, ?_, rfl⟩))
        rcases (show o = 0 ∨ o = 1 by omega) with rfl | rfl
        · exact Or.inl rfl
        · exact Or.inr rfl
    · obtain ⟨X5, g1, g2, g3⟩ := b7_add (c5.b7 hT (c := c) (by omega) x41) 2 (nI N1) v2 (nI o)
      rw [g1, zb_s, if_neg (show ¬ Y4 50 15 = 0 by rw [c5.2.2.1]; decide)]
      exact ⟨_, _, rfl, rfl, res_bad (c := c) (by omega) (gX2.tr fX.g) fY.g c5 g2 g3⟩
  · have x31 : X3 38 2 = nI c := (a3 38 2 (by omega)).trans x21
    obtain ⟨v2, X4, c1, c2, c3⟩ := b7_take (a5.b7 hT (c := c) (by omega) x31) 0 7 v1
    obtain ⟨X5, g1, g2, g3⟩ := b7_add c3 2 v1 v2 (nI o)
    obtain ⟨u2, e1, e2⟩ := bad_number8 (hi := 7) (a5.f8) (by omega)
    have e2 : fX8_number 1000 7 (zup Y3 50 15 1) = some (u2, zup (zup Y3 50 15 1) 50 15 1) := e2
    have e15 : ¬ Y3 50 15 = 0 := by rw [a5.2.2.1]; decide
    rw [if_neg e15, zbs_r, zb_s, zgb_1, zl_s, c1, zb_s]
    dsimp only
    rw [g1, e2, zb_s, zb_s]
    dsimp only
    rw [if_neg (by rw [zup_s]; decide), zup_up]
    exact ⟨_, _, rfl, rfl, res_bad (c := c) (by omega) (gX2.tr a3.g) ((s4.tr a4).tr zF8.u15).g a5.f8 (c2.tr g2) g3⟩
/-- a rule's item, behind its word -/
theorem rule_sim {b : Nat → Int32} {n T k f c w x hi : Nat} {A X Y : zI} (hT : zTs b n T A) (hP : zPre b n T A k f c X Y) (hw : w < 13) (hx : x < 3) (hhi : (x = 2 ∧ hi = 100) ∨ (x < 2 ∧ hi = 7)) (hm : ∃ t : Nat, zAt b n T A k f t ∧ mt b w f t) : ∃ Y1, fX8_next 1000 Y = some Y1 ∧ ∃ X' Y', fX4_parseRule (nI x) (nI hi) X = some X' ∧ fX8_ruleTold 1000 (nI x) (nI hi) Y1 = some Y' ∧ zRes b n T A f c X Y X' Y' := by
  have hP' := hP
  obtain ⟨hS, hc, hc1, h4, h5, hF⟩ := hP
  obtain ⟨Y1, f1, s1, s2, s3, s4, s5⟩ := item_on (X1 := X) (w := w) hT hP' hw hm zG7.rf rfl rfl
  refine ⟨Y1, s1, ?_⟩
  unfold fX4_parseRule fX8_ruleTold
  have e8x : (8 : Int32) + nI x = nI (8 + x) := nI_add 8 x
  simp only [e8x, zg_k _ (show 8 + x < 120 by omega), zn_k (show 8 + x < 2 ^ 31 by omega)]
  rw [zl_s, s2]
  obtain ⟨X2, hX2⟩ : ∃ X2, X2 = zup X 38 3 (nI (k + 1)) := ⟨_, rfl⟩
  have x2s : ∀ s : Nat, s ≠ 3 → X2 38 s = X 38 s := fun s hs => by rw [hX2, zup_r (by omega)]
  have x39 : ∀ s : Nat, X2 39 s = X 39 s := fun s => by rw [hX2, zup_r (by omega)]
  have gX2 : zG7 X X2 := by rw [hX2]; exact zG7.u4
  have x21 : X2 38 2 = nI c := (x2s 2 (by omega)).trans hc1
  rw [← hX2] at s3 ⊢
  clear hX2
  obtain ⟨v1, X3, u1, Y3, a1, a2, a3, a4, a5⟩ := num_plain (hi := hi) hT s3 (by omega)
  have x31 : X3 38 2 = nI c := (a3 38 2 (by omega)).trans x21
  have fY : zF8 Y Y3 := s4.tr a4
  have row : Y3 51 = Y 51 := funext fun s => fY 51 s (by omega)
  rw [a1, a2, zb_s, zb_s]
  dsimp only
  rcases a5 with ⟨N1, f3, b1, rfl, rfl, b4, b5⟩ | a5
  · obtain ⟨X5, g1, g2, g3, g4, g5, g6, g7, g8, g9⟩ := addItem7 x31 hc 3 (nI x) (nI N1) 0
    have ok : zok (8 + x) (nI N1) := by
      rcases hhi with ⟨e, _⟩ | ⟨e, e2⟩
      · exact zok_free (by omega)
      · unfold zok
        rw [if_neg (by omega), if_pos (by omega)]
        exact ⟨N1, by omega, rfl⟩
    rw [g1, zb_s, if_pos b5.2.2.2.2.1, zl_s]
    refine ⟨_, _, rfl, rfl, (gX2.tr a3.g).tr g9, fY.g.tr (up51 (fun c hc => zup_ne hc)), ⟨c + 1, by omega, g2⟩, Or.inl ⟨k + 1 + 1, f3, by omega, b5.mv g9 (g8 3 (by omega)) (g8 6 (by omega)) (fun c hc => zup_ne hc), g2, fun s hs => ?_, ?_, ?_, ?_, ?_⟩⟩
    · rw [g7 s hs, a3 39 s (by omega), x39]
    · rw [g8 4 (by omega), a3 38 4 (by omega), x2s 4 (by omega), zup_r (by omega), row]
      exact h4
    · rw [g8 5 (by omega), a3 38 5 (by omega), x2s 5 (by omega), zup_r (by omega), row]
      exact h5
    · rw [zup_same, row]
      exact zWF_upd hF ok (by omega)
    · rw [g3, g4, g5, g6, zup_same, row]
      exact Or.inr (Or.inr (Or.inr ⟨rfl, x, N1, rfl, hx, rfl, ok, rfl⟩))
  · obtain ⟨X5, g1, g2, g3⟩ := b7_add (a5.b7 hT (c := c) (by omega) x31) 3 (nI x) v1 0
    rw [g1, zb_s, if_neg (show ¬ Y3 50 15 = 0 by rw [a5.2.2.1]; decide), zl_s, zup_self rfl]
    exact ⟨_, _, rfl, rfl, res_bad (c := c) (by omega) (gX2.tr a3.g) fY.g a5 g2 g3⟩
