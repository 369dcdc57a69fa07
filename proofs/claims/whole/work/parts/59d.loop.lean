/-! the items, one after another -/
def zIts (X : zI) (S0 : Nat → Int32) : Nat → (Nat → Int32) → Prop
  | 0, S => S = S0
  | c + 1, S => ∃ S1, zIts X S0 c S1 ∧ zItm (X 39 (4 * c)) (X 39 (4 * c + 1)) (X 39 (4 * c + 2)) (X 39 (4 * c + 3)) S1 S
theorem zIts_congr {X X' : zI} {S0 : Nat → Int32} : ∀ {c : Nat} {S : Nat → Int32}, (∀ s : Nat, s < 4 * c → X' 39 s = X 39 s) → zIts X S0 c S → zIts X' S0 c S := by
  intro c
  induction c with
  | zero => exact fun _ h => h
  | succ c ih =>
    rintro S hX ⟨S1, h1, h2⟩
    refine ⟨S1, ih (fun s hs => hX s (by omega)) h1, ?_⟩
    rw [hX (4 * c) (by omega), hX (4 * c + 1) (by omega), hX (4 * c + 2) (by omega), hX (4 * c + 3) (by omega)]
    exact h2
theorem zIts_fun {X : zI} {S0 : Nat → Int32} : ∀ {c : Nat} {S : Nat → Int32}, zIts X S0 c S → ∃ R : Nat → Nat → Int32, R 0 = S0 ∧ R c = S ∧ ∀ j : Nat, j < c → zItm (X 39 (4 * j)) (X 39 (4 * j + 1)) (X 39 (4 * j + 2)) (X 39 (4 * j + 3)) (R j) (R (j + 1)) := by
  intro c
  induction c with
  | zero =>
    intro S h
    exact ⟨fun _ => S0, rfl, Eq.symm h, fun j hj => absurd hj (by omega)⟩
  | succ c ih =>
    rintro S ⟨S1, h1, h2⟩
    obtain ⟨R, r1, r2, r3⟩ := ih h1
    refine ⟨fun j => if j ≤ c then R j else S, ?_, ?_, fun j hj => ?_⟩
    · show (if 0 ≤ c then R 0 else S) = S0
      rw [if_pos (Nat.zero_le c), r1]
    · show (if c + 1 ≤ c then R (c + 1) else S) = S
      rw [if_neg (by omega)]
    · show zItm _ _ _ _ (if j ≤ c then R j else S) (if j + 1 ≤ c then R (j + 1) else S)
      rw [if_pos (by omega)]
      by_cases q : j + 1 ≤ c
      · rw [if_pos q]; exact r3 j (by omega)
      · have e : j = c := by omega
        subst e
        rw [if_neg q, r2]
        exact h2
theorem par_stop {X X1 : zI} {c : Nat} (hc : c ≤ 120) (h : fX4_parseItem X = some X1) (h2 : ¬ X1 38 6 = (-1) ∨ fX3_kindAt (X1 38 3) X1 = some 0) : gX4_parse_37 (1, nI c, X) = some (.inl (0, nI (c + 1), X1)) := by
  unfold gX4_parse_37
  dsimp only
  rw [if_neg (Int32.not_lt.mpr (show nI c ≤ 120 from nI_le (b := 120) hc (by omega))), if_neg (show ¬ (1 : Int32) = 0 by decide), h, zb_s]
  by_cases q : X1 38 6 = (-1)
  · have k0 := h2.resolve_left (fun z => z q)
    rw [if_pos q, k0, zb_s, if_pos rfl, zbs_r, zb_s, if_pos rfl, zl_s, nI_1]
  · rw [if_neg q, zbs_r, zb_s, if_pos rfl, zl_s, nI_1]
theorem par_take {X X1 X2 : zI} {c : Nat} {v : Int32} (hc : c ≤ 120) (h : fX4_parseItem X = some X1) (h2 : X1 38 6 = (-1)) (h3 : fX3_kindAt (X1 38 3) X1 = some v) (h4 : ¬ v = 0) (h5 : fX4_takeSign X1 = some X2) : gX4_parse_37 (1, nI c, X) = some (.inl (1, nI (c + 1), X2)) := by
  unfold gX4_parse_37
  dsimp only
  rw [if_neg (Int32.not_lt.mpr (show nI c ≤ 120 from nI_le (b := 120) hc (by omega))), if_neg (show ¬ (1 : Int32) = 0 by decide), h, zb_s, if_pos h2, h3, zb_s, if_neg h4, zbs_l, zb_s, if_neg (by decide), h5, zb_s, zl_s, nI_1]
theorem par_end {X : zI} {c : Nat} (hc : c ≤ 120) : gX4_parse_37 (0, nI c, X) = some (.inr X) := by
  unfold gX4_parse_37
  dsimp only
  rw [if_neg (Int32.not_lt.mpr (show nI c ≤ 120 from nI_le (b := 120) hc (by omega))), if_pos rfl]
theorem sign8 {b : Nat → Int32} {n T k f : Nat} {A X Y : zI} (h : zSim b n T A k f X Y) : fX8_isWord 1000 35 Y = some (zp (f < n ∧ kdb (b f) = 3)) := by
  obtain ⟨h1, h2, h3, h4, h5, h6, t, h7, h8, h9⟩ := h
  have hle := h7.here.le
  rw [isWord8 h2 (by omega) hle.1 hle.2 h8 h9, zp_eq (show (Y 50 15 = 0 ∧ mt b 35 f t) ↔ (f < n ∧ kdb (b f) = 3) from ⟨fun z => (mt_35 h7.here).mp z.2, fun z => ⟨h5, (mt_35 h7.here).mpr z⟩⟩)]
/-- where both loops end -/
def zEnd (b : Nat → Int32) (n T : Nat) (A : zI) (S0 : Nat → Int32) (X Y : zI) (cnt : Int32) : Prop := zXA A X ∧ ((X 38 6 = (-1) ∧ Y 50 15 = 0 ∧ Y 50 13 = nI n ∧ ∃ cf : Nat, cf ≤ 30 ∧ X 38 2 = nI cf ∧ cnt = nI cf ∧ zIts X S0 cf (Y 51) ∧ zWF (Y 51)) ∨ (∃ k f t : Nat, k ≤ T ∧ X 38 6 = nI k ∧ zAt b n T A k f t ∧ Y 50 13 = nI f ∧ (Y 50 15 = 1 ∨ (Y 50 15 = 0 ∧ f < n))))
theorem text_loop {b : Nat → Int32} {n T : Nat} {A : zI} (hT : zTs b n T A) (S0 : Nat → Int32) : ∀ (m c k f N7 N8 : Nat) (X Y : zI), 31 - c ≤ m → m + 3 ≤ N7 → m + 3 ≤ N8 → zSim b n T A k f X Y → 4 * c ≤ f → X 38 2 = nI c → X 38 4 = Y 51 11 → X 38 5 = Y 51 12 → zWF (Y 51) → zIts X S0 c (Y 51) → ∃ X' Y1 Y' cnt, zit gX4_parse_37 N7 (1, nI c, X) = some X' ∧ fX8_item 1000 Y = some Y1 ∧ zit (gX8_text_24 1000) N8 (nI (c + 1), Y1) = some (cnt, Y') ∧ zG7 X X' ∧ zG8 Y Y' ∧ zEnd b n T A S0 X' Y' cnt := by
  intro m
  induction m with
  | zero =>
    intro c k f N7 N8 X Y hm hN7 hN8 hS h4c
    obtain ⟨-, -, -, -, -, -, t, h7, -, -⟩ := hS
    have := h7.here.le
    have := hT.1.2.2
    omega
  | succ m ih =>
    intro c k f N7 N8 X Y hm hN7 hN8 hS h4c hc1 h4 h5 hF hI
    obtain ⟨N7, rfl⟩ : ∃ N, N7 = N + 3 := ⟨N7 - 3, by omega⟩
    obtain ⟨N8, rfl⟩ : ∃ N, N8 = N + 1 := ⟨N8 - 1, by omega⟩
    have hn := hT.1.2.2
    have hc : c ≤ 30 := by
      obtain ⟨-, -, -, -, -, -, t, h7, -, -⟩ := hS
      have := h7.here.le
      omega
    obtain ⟨X1, Y1, p1, p2, g7, g8, ⟨c', hc', ec'⟩, p3⟩ := item_sim hT hS h4c hc1 h4 h5 hF
    rcases p3 with ⟨k', f', hf', s1, e1, s39, s4, s5, sF, sI⟩ | hB
    · have s1' := s1
      obtain ⟨a1, a2, a3, a4, a5, a6, t, a7, a8, a9⟩ := s1
      have hle := a7.here.le
      have kd : fX3_kindAt (X1 38 3) X1 = some (if f' < n then nI (kdb (b f')) else 0) := by
        rw [a3]; exact kindAt7 hT a1 a6 a7
      have I1 : zIts X1 S0 (c + 1) (Y1 51) := ⟨Y 51, zIts_congr s39 hI, sI⟩
      by_cases q : f' < n
      · rw [if_pos q] at kd
        have kz := kdb_lt (b f')
        have vn : ¬ nI (kdb (b f')) = 0 := fun z => by
          have := (nI_eq (a := kdb (b f')) (b := 0) (by omega) (by omega)).mp z
          omega
        have tk : zTok b n f' t := by
          rcases a7.here with ⟨_, z⟩ | ⟨z, _⟩
          · exact z
          · omega
        have kT : k' < T := by
          obtain ⟨_, _, _, (⟨z, _⟩ | ⟨_, z, _⟩)⟩ := a7
          · exact z
          · omega
        by_cases q3 : kdb (b f') = 3
        · -- a sign: on
          have ts : fX4_takeSign X1 = some (zup X1 38 3 (nI (k' + 1))) := by
            unfold fX4_takeSign
            rw [kd, zb_s, if_pos (show nI (kdb (b f')) = 3 by rw [q3]; rfl), a3, nI_1, zl_s]
          obtain ⟨Y2, f2, n1, n2, n3, t2, n4, n5⟩ := sim_next hT s1' kT
          have tt : t2 = t := by
            obtain ⟨_, _, _, (⟨_, z⟩ | ⟨z, _⟩)⟩ := n4
            · exact tok_det z tk
            · omega
          have ht := tk.2.2.1
          have row : Y2 51 = Y1 51 := funext fun s => n3 51 s (by omega)
          have u : ∀ s : Nat, s ≠ 3 → zup X1 38 3 (nI (k' + 1)) 38 s = X1 38 s := fun s hs => zup_r (by omega)
          obtain ⟨X', Y3, Y', cnt, r1, r2, r3, r4, r5, r6⟩ := ih (c + 1) (k' + 1) f2 (N7 + 2) N8 _ Y2 (by omega) (by omega) (by omega) n2 (by omega) ((u 2 (by omega)).trans e1) (by rw [u 4 (by omega), row]; exact s4) (by rw [u 5 (by omega), row]; exact s5) (by rw [row]; exact sF) (by rw [row]; exact zIts_congr (fun s _ => zup_r (by omega)) I1)
          have law : gX8_text_24 1000 (nI (c + 1), Y1) = some (.inl (nI (c + 1 + 1), Y3)) := by
            unfold gX8_text_24
            dsimp only
            rw [if_pos a5, sign8 s1', zb_s, zif, zite_t ⟨q, q3⟩, n1, zb_s, r2, zb_s, zl_s, nI_1]
          exact ⟨X', Y1, Y', cnt, (zit_l (par_take (by omega) p1 a4 kd vn ts)).trans r1, p2, (zit_l law).trans r3, (g7.tr zG7.u4).tr r4, (g8.tr n3.g).tr r5, r6⟩
        · -- none: wrong there
          have ts : fX4_takeSign X1 = some (zup X1 38 6 (nI k')) := by
            unfold fX4_takeSign fX4_refuse
            rw [kd, zb_s, if_neg (show ¬ nI (kdb (b f')) = 3 from fun z => q3 ((nI_eq (b := 3) (by omega) (by omega)).mp z)), if_pos a4, zl_s, zb_s, a3]
          have b7 : zB7 b n T A (zup X1 38 6 (nI k')) := ⟨hT, zF7.u6.xa a1, ⟨k', a6, zup_s⟩, c', hc', (zup_r (by omega)).trans ec'⟩
          obtain ⟨X3, w1, w2, w3⟩ := b7_item b7
          have e6 : X3 38 6 = nI k' := w2.1.trans zup_s
          have hT2 := hT.2.2.1
          have law : gX8_text_24 1000 (nI (c + 1), Y1) = some (.inr (nI (c + 1), Y1)) := by
            unfold gX8_text_24
            dsimp only
            rw [if_pos a5, sign8 s1', zb_s, zif, zite_f (fun z => q3 z.2)]
          exact ⟨X3, Y1, Y1, _, ((zit_l (par_take (by omega) p1 a4 kd vn ts)).trans (zit_l (par_stop (by omega) w1 (Or.inl (by rw [e6]; exact nI_nm1 (by omega)))))).trans (zit_r (par_end (by omega))), p2, zit_r law, (g7.tr zG7.u4).tr w2.2, g8, w3.2.1, Or.inr ⟨k', f', t, a6, e6, a7, a8, Or.inr ⟨a5, q⟩⟩⟩
      · rw [if_neg q] at kd
        have law : gX8_text_24 1000 (nI (c + 1), Y1) = some (.inr (nI (c + 1), Y1)) := by
          unfold gX8_text_24
          dsimp only
          rw [if_pos a5, sign8 s1', zb_s, zif, zite_f (fun z => q z.1)]
        have c30 : c + 1 ≤ 30 := by
          have e : c' = c + 1 := (nI_eq (by omega) (by omega)).mp (ec'.symm.trans e1)
          omega
        refine ⟨X1, Y1, Y1, _, (zit_l (par_stop (by omega) p1 (Or.inr kd))).trans (zit_r (par_end (by omega))), p2, zit_r law, g7, g8, a1, Or.inl ⟨a4, a5, ?_, c + 1, c30, e1, rfl, I1, sF⟩⟩
        rw [a8, show f' = n by omega]
    · obtain ⟨h1, h2, h3, k', h4', h5', f', t', h6, h7, h8⟩ := hB
      have hT2 := hT.2.2.1
      have law : gX8_text_24 1000 (nI (c + 1), Y1) = some (.inr (nI (c + 1), Y1)) := by
        unfold gX8_text_24
        dsimp only
        rw [if_neg (by rw [h3]; decide)]
      exact ⟨X1, Y1, Y1, _, (zit_l (par_stop (by omega) p1 (Or.inl (by rw [h5']; exact nI_nm1 (by omega))))).trans (zit_r (par_end (by omega))), p2, zit_r law, g7, g8, h1, Or.inr ⟨k', f', t', h4', h5', h6, h7, Or.inl h3⟩⟩
