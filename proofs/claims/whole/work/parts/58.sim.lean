/-! reading token by token, on both sides -/
def zSim (b : Nat → Int32) (n T : Nat) (A : zI) (k f : Nat) (X Y : zI) : Prop := zXA A X ∧ zY b n Y ∧ X 38 3 = nI k ∧ X 38 6 = (-1) ∧ Y 50 15 = 0 ∧ k ≤ T ∧ ∃ t : Nat, zAt b n T A k f t ∧ Y 50 13 = nI f ∧ Y 50 14 = nI t
/-- something was wrong -/
def zBad (b : Nat → Int32) (n T : Nat) (A : zI) (X Y : zI) : Prop := zXA A X ∧ zY b n Y ∧ Y 50 15 = 1 ∧ ∃ k : Nat, k ≤ T ∧ X 38 6 = nI k ∧ ∃ f t : Nat, zAt b n T A k f t ∧ Y 50 13 = nI f ∧ Y 50 14 = nI t
def zF7 (X X' : zI) : Prop := ∀ c s : Nat, ¬ (c = 38 ∧ (s = 3 ∨ s = 6)) → X' c s = X c s
def zF8 (Y Y' : zI) : Prop := ∀ c s : Nat, ¬ (c = 50 ∧ (s = 13 ∨ s = 14 ∨ s = 15)) → Y' c s = Y c s
theorem zF7.rf {X : zI} : zF7 X X := fun _ _ _ => rfl
theorem zF8.rf {X : zI} : zF8 X X := fun _ _ _ => rfl
theorem zF7.tr {X Y Z : zI} (h : zF7 X Y) (g : zF7 Y Z) : zF7 X Z := fun c s hc => (g c s hc).trans (h c s hc)
theorem zF8.tr {X Y Z : zI} (h : zF8 X Y) (g : zF8 Y Z) : zF8 X Z := fun c s hc => (g c s hc).trans (h c s hc)
theorem zF7.u3 {X : zI} {v : Int32} : zF7 X (zup X 38 3 v) := fun c s hc => zup_r (by omega)
theorem zF7.u6 {X : zI} {v : Int32} : zF7 X (zup X 38 6 v) := fun c s hc => zup_r (by omega)
theorem zF8.u15 {X : zI} {v : Int32} : zF8 X (zup X 50 15 v) := fun c s hc => zup_r (by omega)
theorem zF7.xa {A X X' : zI} (h : zF7 X X') (g : zXA A X) : zXA A X' := fun c s hc => (h c s (by omega)).trans (g c s hc)
theorem zF8.y {b : Nat → Int32} {n : Nat} {Y Y' : zI} (h : zF8 Y Y') (g : zY b n Y) : zY b n Y' := ⟨fun k hk => (h 54 k (by omega)).trans (g.1 k hk), (h 50 5 (by omega)).trans g.2.1, g.2.2⟩
theorem sim_next {b : Nat → Int32} {n T k f : Nat} {A X Y : zI} (hT : zTs b n T A) (h : zSim b n T A k f X Y) (hk : k < T) : ∃ (Y' : zI) (f' : Nat), fX8_next 1000 Y = some Y' ∧ zSim b n T A (k + 1) f' (zup X 38 3 (nI (k + 1))) Y' ∧ zF8 Y Y' ∧ ∃ t : Nat, zAt b n T A k f t ∧ t ≤ f' := by
  obtain ⟨h1, h2, h3, h4, h5, h6, t, h7, h8, h9⟩ := h
  have hle := h7.here.le
  obtain ⟨Y', f', t', a1, a2, a3, a4, a5, a6⟩ := next8 h2 hle.2 h9
  have F : zF8 Y Y' := fun c s hc => a6 c s (by omega)
  exact ⟨Y', f', a1, ⟨zF7.u3.xa h1, F.y h2, zup_s, (zup_r (by omega)).trans h4, (a6 50 15 (by omega)).trans h5, hk, t', at_next hT hk h7 a2 a3, a4, a5⟩, F, t, h7, a2.1⟩
theorem refuse7 {b : Nat → Int32} {n T k f : Nat} {A X Y Y' : zI} (h : zSim b n T A k f X Y) (hF : zF8 Y Y') (e13 : Y' 50 13 = Y 50 13) (e14 : Y' 50 14 = Y 50 14) (e15 : Y' 50 15 = 1) : ∃ X', fX4_refuse X = some X' ∧ zF7 X X' ∧ zBad b n T A X' Y' := by
  obtain ⟨h1, h2, h3, h4, h5, h6, t, h7, h8, h9⟩ := h
  unfold fX4_refuse
  rw [if_pos h4, zl_s, h3]
  exact ⟨_, rfl, zF7.u6, zF7.u6.xa h1, hF.y h2, e15, k, h6, zup_s, f, t, h7, e13.trans h8, e14.trans h9⟩
theorem number8 {b : Nat → Int32} {n f t hi : Nat} {Y : zI} {lv : Int32} (hn : fX8_numberHere 1000 Y = some lv) (hhi : hi ≤ 100) (hw : Y 50 15 = 0 ∨ Y 50 15 = 1) : fX8_number 1000 (nI hi) Y = zite (Y 50 15 = 0 ∧ zbt 0 hi lv) (zb (fX8_next 1000 (zup Y 50 15 0)) fun o => some (lv, o)) (some (lv, zup Y 50 15 1)) := by
  unfold fX8_number
  rw [hn, zb_s, within8I, zb_s, zif, Int32.toInt_toInt64, nI_toInt (by omega), show Int64.toInt 0 = 0 from rfl]
  rcases hw with w | w
  · rw [if_pos w]
    by_cases q : zbt 0 hi lv
    · rw [zite_t q, zbs_l, zb_s, zgb_0, zl_s, if_pos zup_s, zite_t ⟨w, q⟩]
    · rw [zite_f q, zbs_r, zb_s, zgb_1, zl_s, if_neg (by rw [zup_s]; decide), zite_f (fun z => q z.2)]
  · have w0 : ¬ Y 50 15 = 0 := by rw [w]; decide
    rw [if_neg w0, zbs_r, zb_s, zgb_1, zl_s, if_neg (by rw [zup_s]; decide), zite_f (fun z => w0 z.1)]
theorem numHere_up {Y : zI} {w : Int32} : fX8_numberHere 1000 (zup Y 50 15 w) = fX8_numberHere 1000 Y := by
  have e13 : zup Y 50 15 w 50 13 = Y 50 13 := zup_r (by omega)
  have e14 : zup Y 50 15 w 50 14 = Y 50 14 := zup_r (by omega)
  have e5 : zup Y 50 15 w 50 5 = Y 50 5 := zup_r (by omega)
  have e54 : zup Y 50 15 w 54 = Y 54 := zup_ne (by omega)
  have g : gX8_numberHere_26 (zup Y 50 15 w) = gX8_numberHere_26 Y := by
    funext s
    unfold gX8_numberHere_26
    rw [e14, e54]
  unfold fX8_numberHere fX8_isByte
  rw [g, e13, e5, e54]
theorem zup_up {Y : zI} {c s : Nat} {v w : Int32} : zup (zup Y c s v) c s w = zup Y c s w := by
  funext a x
  rw [zup_at, zup_at, zup_at]
  by_cases q : a = c ∧ x = s
  · rw [if_pos q, if_pos q]
  · rw [if_neg q, if_neg q, if_neg q]
theorem zup_self {Y : zI} {c s : Nat} {v : Int32} (h : Y c s = v) : zup Y c s v = Y := by
  funext a x
  rw [zup_at]
  by_cases q : a = c ∧ x = s
  · rw [if_pos q, q.1, q.2, h]
  · rw [if_neg q]
theorem num_core {b : Nat → Int32} {n T k f lo hi : Nat} {A X Y : zI} {bar : Int32} (hT : zTs b n T A) (h : zSim b n T A k f X Y) (hlo : lo ≤ hi) (hhi : hi ≤ 100) : ∃ lv, fX8_numberHere 1000 Y = some lv ∧ (-1) ≤ lv.toInt ∧ ∀ w : Int32, (w = 0 ∨ w = 1) → ((w = 0 ∧ zbt 0 hi lv) ↔ (zbt lo hi lv ∧ ¬ lv = bar)) → ∃ (v : Int32) (X' : zI) (u : Int32) (Y' : zI), fX4_takeNumber (nI lo) (nI hi) bar X = some (v, X') ∧ fX8_number 1000 (nI hi) (zup Y 50 15 w) = some (u, Y') ∧ zF7 X X' ∧ zF8 Y Y' ∧ ((∃ N f' : Nat, lo ≤ N ∧ N ≤ hi ∧ v = nI N ∧ u = nI N ∧ f ≤ f' ∧ zSim b n T A (k + 1) f' X' Y') ∨ zBad b n T A X' Y') := by
  have hs := h
  obtain ⟨h1, h2, h3, h4, h5, h6, t, h7, h8, h9⟩ := h
  have hle := h7.here.le
  obtain ⟨cv, c1, c2⟩ := numberAt7 hT h1 h6 h7
  obtain ⟨lv, l1, l2⟩ := numberHere8 h2 h7.here h8 h9
  have same : (zbt lo hi cv ∧ ¬ cv = bar) ↔ (zbt lo hi lv ∧ ¬ lv = bar) := by
    rcases c2 with ⟨q1, q2, e⟩ | ⟨q, e⟩
    · have hN := zNu_le b f (t - f)
      rcases l2 with ⟨_, z⟩ | ⟨_, m, em, (⟨m1, m2⟩ | ⟨m1, m2, m3⟩)⟩
      · exact absurd ⟨q1, q2⟩ z
      · rw [e, em, m1]
      · constructor
        · rintro ⟨z, _⟩
          rw [e] at z
          unfold zbt at z
          rw [nI_toInt (by omega)] at z
          omega
        · rintro ⟨z, _⟩
          rw [em] at z
          unfold zbt at z
          rw [nI_toInt (by omega)] at z
          omega
    · rcases l2 with ⟨e2, _⟩ | ⟨z, _⟩
      · rw [e, e2]
      · exact absurd z q
  have ge : (-1) ≤ lv.toInt := by
    rcases l2 with ⟨e2, _⟩ | ⟨_, m, em, hm⟩
    · rw [e2]; decide
    · rw [em, nI_toInt (by omega)]; omega
  refine ⟨lv, l1, ge, fun w hw hG => ?_⟩
  unfold fX4_takeNumber
  rw [h3, c1, zb_s, within7, zb_s, zif, nI_toInt (by omega), nI_toInt (by omega), number8 (f := f) (t := t) (b := b) (n := n) (numHere_up.trans l1) hhi (by rw [zup_s]; exact hw), zup_s, zup_up]
  by_cases q : zbt lo hi lv ∧ ¬ lv = bar
  · have qc := same.mpr q
    rw [zite_t (hG.mpr q), zite_t qc.1, if_neg qc.2, zl_s, zup_self h5, nI_1]
    -- it is a number in range
    have isn : ∃ N : Nat, N ≤ 1000 ∧ cv = nI N ∧ lv = nI N ∧ k < T := by
      rcases c2 with ⟨q1, q2, e⟩ | ⟨_, e⟩
      · have hN := zNu_le b f (t - f)
        have hk : k < T := by
          obtain ⟨_, _, _, (⟨z, _⟩ | ⟨_, z, _⟩)⟩ := h7
          · exact z
          · omega
        rcases l2 with ⟨_, z⟩ | ⟨_, m, em, (⟨m1, m2⟩ | ⟨m1, m2, m3⟩)⟩
        · exact absurd ⟨q1, q2⟩ z
        · exact ⟨_, hN, e, by rw [em, m1], hk⟩
        · have z := qc.1
          rw [e] at z
          unfold zbt at z
          rw [nI_toInt (by omega)] at z
          omega
      · have z := qc.1.1
        rw [e, show (-1 : Int32).toInt = -1 from rfl] at z
        omega
    obtain ⟨N, hN, eN, eL, hk⟩ := isn
    obtain ⟨Y', f', s1, s2, s3, t0, s4, s5⟩ := sim_next hT hs hk
    have s6 := s4.here.le
    rw [s1, zb_s, eN, eL]
    have z := q.1
    rw [eL] at z
    unfold zbt at z
    rw [nI_toInt (by omega)] at z
    exact ⟨_, _, _, _, rfl, rfl, zF7.u3, s3, Or.inl ⟨N, f', by omega, by omega, rfl, rfl, by omega, s2⟩⟩
  · have qc : ¬ (zbt lo hi cv ∧ ¬ cv = bar) := fun z => q (same.mp z)
    rw [zite_f (fun z => q (hG.mp z)), zup_up]
    obtain ⟨X', r1, r2, r3⟩ := refuse7 (Y' := zup Y 50 15 1) hs zF8.u15 (zup_r (by omega)) (zup_r (by omega)) zup_s
    rw [r1, zb_s]
    by_cases y : zbt lo hi cv
    · have e : cv = bar := Classical.byContradiction fun x => qc ⟨y, x⟩
      rw [zite_t y, if_pos e]
      exact ⟨_, _, _, _, rfl, rfl, r2, zF8.u15, Or.inr r3⟩
    · rw [zite_f y]
      exact ⟨_, _, _, _, rfl, rfl, r2, zF8.u15, Or.inr r3⟩
/-- in the wrong -/
theorem zBad.f7 {b : Nat → Int32} {n T : Nat} {A X X' Y : zI} (h : zBad b n T A X Y) (hF : zF7 X X') (e : X' 38 6 = X 38 6) : zBad b n T A X' Y := by
  obtain ⟨h1, h2, h3, k, h4, h5, h6⟩ := h
  exact ⟨hF.xa h1, h2, h3, k, h4, e.trans h5, h6⟩
theorem zBad.f8 {b : Nat → Int32} {n T : Nat} {A X Y : zI} (h : zBad b n T A X Y) : zBad b n T A X (zup Y 50 15 1) := by
  rw [zup_self h.2.2.1]; exact h
theorem bad_refuse7 {b : Nat → Int32} {n T : Nat} {A X Y : zI} (hT : zTs b n T A) (h : zBad b n T A X Y) : fX4_refuse X = some X := by
  obtain ⟨h1, h2, h3, k, h4, h5, h6⟩ := h
  have := hT.2.2.1
  unfold fX4_refuse
  rw [h5, if_neg (nI_nm1 (by omega))]
theorem bad_take7 {b : Nat → Int32} {n T : Nat} {A X Y : zI} (hT : zTs b n T A) (h : zBad b n T A X Y) (lo hi bar : Int32) : ∃ v X', fX4_takeNumber lo hi bar X = some (v, X') ∧ zF7 X X' ∧ zBad b n T A X' Y := by
  obtain ⟨v, hv⟩ := numberAny7 hT h.1 (X 38 3)
  unfold fX4_takeNumber
  rw [hv, zb_s, within7, zb_s, zif, bad_refuse7 hT h, zb_s, zl_s]
  by_cases y : zbt lo.toInt hi.toInt v
  · rw [zite_t y]
    by_cases z : v = bar
    · rw [if_pos z]; exact ⟨_, _, rfl, zF7.rf, h⟩
    · rw [if_neg z]; exact ⟨_, _, rfl, zF7.u3, h.f7 zF7.u3 (zup_r (by omega))⟩
  · rw [zite_f y]; exact ⟨_, _, rfl, zF7.rf, h⟩
theorem bad_number8 {b : Nat → Int32} {n T hi : Nat} {A X Y : zI} (h : zBad b n T A X Y) (hhi : hi ≤ 100) : ∃ u, fX8_numberHere 1000 Y = some u ∧ fX8_number 1000 (nI hi) Y = some (u, zup Y 50 15 1) := by
  obtain ⟨h1, h2, h3, k, h4, h5, f, t, h6, h7, h8⟩ := h
  obtain ⟨lv, l1, -⟩ := numberHere8 h2 h6.here h7 h8
  refine ⟨lv, l1, ?_⟩
  rw [number8 (f := f) (t := t) (b := b) (n := n) l1 hhi (Or.inr h3), zite_f (fun z => by rw [h3] at z; exact absurd z.1 (by decide))]
theorem bad_word8 {b : Nat → Int32} {n T i : Nat} {A X Y : zI} (h : zBad b n T A X Y) (hi : i < 36) : fX8_isWord 1000 i Y = some 0 := by
  obtain ⟨h1, h2, h3, k, h4, h5, f, t, h6, h7, h8⟩ := h
  have hle := h6.here.le
  rw [isWord8 h2 hi hle.1 hle.2 h7 h8, zp_f (fun z => by rw [h3] at z; exact absurd z.1 (by decide))]
theorem bad_perhaps {b : Nat → Int32} {n T i : Nat} {A X Y : zI} (hT : zTs b n T A) (h : zBad b n T A X Y) (hi : i < 36) (cw lo hi' els lo8 hi8 els8 : Int32) : ∃ v X', fX4_takePerhaps cw lo hi' els X = some (v, X') ∧ zF7 X X' ∧ zBad b n T A X' Y ∧ fX8_perhaps 1000 i lo8 hi8 els8 Y = some (els8, Y) := by
  have e8 : fX8_perhaps 1000 i lo8 hi8 els8 Y = some (els8, Y) := by
    unfold fX8_perhaps fX8_takes
    rw [bad_word8 h hi, zb_s, if_pos rfl, zgb_0, zb_s]
    dsimp only
    rw [if_pos rfl]
  obtain ⟨v, hv⟩ := wordAny7 hT h.1 (X 38 3)
  unfold fX4_takePerhaps
  rw [hv, zb_s, zl_s]
  by_cases z : v = cw
  · rw [if_pos z]
    have hB := h.f7 (X' := zup X 38 3 (X 38 3 + 1)) zF7.u3 (zup_r (by omega))
    obtain ⟨v2, X2, a1, a2, a3⟩ := bad_take7 hT hB lo hi' (-1)
    rw [a1, zb_s]
    exact ⟨_, _, rfl, zF7.u3.tr a2, a3, e8⟩
  · rw [if_neg z]
    exact ⟨_, _, rfl, zF7.rf, h, e8⟩
theorem zlw_lt : ∀ w : Nat, w < 17 → zlw w < 36 := by decide
theorem perhaps_sim {b : Nat → Int32} {n T k f lo hi els cw : Nat} {A X Y : zI} (hT : zTs b n T A) (h : zSim b n T A k f X Y) (hcw : cw < 17) (hlo : lo ≤ hi) (hhi : hi ≤ 100) : ∃ (v : Int32) (X' : zI) (u : Int32) (Y' : zI), fX4_takePerhaps (nI cw) (nI lo) (nI hi) (nI els) X = some (v, X') ∧ fX8_perhaps 1000 (zlw cw) (nI lo) (nI hi) (nI els) Y = some (u, Y') ∧ zF7 X X' ∧ zF8 Y Y' ∧ ((∃ N k' f' : Nat, ((lo ≤ N ∧ N ≤ hi) ∨ N = els) ∧ v = nI N ∧ u = nI N ∧ f ≤ f' ∧ zSim b n T A k' f' X' Y') ∨ zBad b n T A X' Y') := by
  have hs := h
  obtain ⟨h1, h2, h3, h4, h5, h6, t, h7, h8, h9⟩ := h
  have hle := h7.here.le
  have hlw : zlw cw < 36 := zlw_lt cw hcw
  obtain ⟨w, w1, w2⟩ := wordAt7 hT h1 h6 h7
  unfold fX4_takePerhaps fX8_perhaps fX8_takes
  rw [h3, w1, zb_s, zl_s, nI_1, isWord8 h2 hlw hle.1 hle.2 h8 h9, zp_eq (show (Y 50 15 = 0 ∧ mt b (zlw cw) f t) ↔ mt b cw f t from ⟨fun z => (mt_lw hcw).mp z.2, fun z => ⟨h5, (mt_lw hcw).mpr z⟩⟩), zb_s, zif]
  by_cases q : mt b cw f t
  · have ew : w = nI cw := by
      rcases w2 with ⟨x, x1, x2, x3⟩ | ⟨_, x⟩
      · rw [x2, mt_one x1 hcw x3 q]
      · exact absurd q (x cw hcw)
    have hk : k < T := by
      have := (mt_1 hcw q).1
      obtain ⟨_, _, _, (⟨z, _⟩ | ⟨_, z, z2⟩)⟩ := h7
      · exact z
      · omega
    obtain ⟨Y1, f1, s1, s2, s3, t0, s4, s5⟩ := sim_next hT hs hk
    have s6 := s4.here.le
    obtain ⟨lv, l1, l2, l3⟩ := num_core (bar := -1) hT s2 hlo hhi
    rw [if_pos ew, zite_t q, s1, zb_s, zp_t q, zgb_1, zb_s]
    dsimp only
    rw [if_neg (by decide), l1, zb_s, if_pos s2.2.2.2.2.1]
    have hz : ∀ z : Int32, zbt lo hi z ↔ (nI lo ≤ z ∧ z.toInt ≤ hi) := fun z => by
      unfold zbt
      rw [Int32.le_iff_toInt_le, nI_toInt (by omega)]
    have nm : ∀ z : Int32, zbt lo hi z → ¬ z = (-1) := fun z hz e => by
      rw [e] at hz
      have := hz.1
      rw [show (-1 : Int32).toInt = -1 from rfl] at this
      omega
    by_cases y : nI lo ≤ lv
    · rw [if_pos y, zl_s]
      obtain ⟨v, X', u, Y', a1, a2, a3, a4, a5⟩ := l3 0 (Or.inl rfl) ⟨fun z => by
        have z2 : zbt lo hi lv := (hz lv).mpr ⟨y, z.2.2⟩
        exact ⟨z2, nm _ z2⟩, fun z => ⟨rfl, by have := z.1.1; omega, z.1.2⟩⟩
      rw [a1, a2, zb_s, zb_s]
      refine ⟨_, _, _, _, rfl, rfl, zF7.u3.tr a3, s3.tr a4, ?_⟩
      rcases a5 with ⟨N, f', b1, b2, b3, b4, b5, b6⟩ | a5
      · exact Or.inl ⟨N, _, f', Or.inl ⟨b1, b2⟩, b3, b4, by omega, b6⟩
      · exact Or.inr a5
    · rw [if_neg y, zl_s]
      obtain ⟨v, X', u, Y', a1, a2, a3, a4, a5⟩ := l3 1 (Or.inr rfl) ⟨fun z => absurd z.1 (by decide), fun z => absurd ((hz lv).mp z.1).1 y⟩
      rw [a1, a2, zb_s, zb_s]
      refine ⟨_, _, _, _, rfl, rfl, zF7.u3.tr a3, s3.tr a4, ?_⟩
      rcases a5 with ⟨N, f', b1, b2, b3, b4, b5, b6⟩ | a5
      · exact Or.inl ⟨N, _, f', Or.inl ⟨b1, b2⟩, b3, b4, by omega, b6⟩
      · exact Or.inr a5
  · have ew : ¬ w = nI cw := by
      rcases w2 with ⟨x, x1, x2, x3⟩ | ⟨x2, _⟩
      · intro z
        have e : x = cw := (nI_eq (by omega) (by omega)).mp (x2.symm.trans z)
        rw [e] at x3
        exact q x3
      · intro z
        exact nI_nm1 (d := cw) (by omega) (z.symm.trans x2)
    rw [if_neg ew, zite_f q, zp_f q, zgb_0, zb_s]
    dsimp only
    rw [if_pos rfl]
    exact ⟨_, _, _, _, rfl, rfl, zF7.rf, zF8.rf, Or.inl ⟨els, k, f, Or.inr rfl, rfl, rfl, Nat.le_refl _, hs⟩⟩
/-- a number asked for by the reference without more -/
theorem num_plain {b : Nat → Int32} {n T k f hi : Nat} {A X Y : zI} (hT : zTs b n T A) (h : zSim b n T A k f X Y) (hhi : hi ≤ 100) : ∃ (v : Int32) (X' : zI) (u : Int32) (Y' : zI), fX4_takeNumber 0 (nI hi) (-1) X = some (v, X') ∧ fX8_number 1000 (nI hi) Y = some (u, Y') ∧ zF7 X X' ∧ zF8 Y Y' ∧ ((∃ N f' : Nat, N ≤ hi ∧ v = nI N ∧ u = nI N ∧ f ≤ f' ∧ zSim b n T A (k + 1) f' X' Y') ∨ zBad b n T A X' Y') := by
  obtain ⟨lv, l1, l2, l3⟩ := num_core (lo := 0) (bar := -1) hT h (Nat.zero_le hi) hhi
  obtain ⟨v, X', u, Y', a1, a2, a3, a4, a5⟩ := l3 0 (Or.inl rfl) ⟨fun z => ⟨z.2, fun e => by
    have := z.2.1
    rw [e, show (-1 : Int32).toInt = -1 from rfl] at this
    omega⟩, fun z => ⟨rfl, z.1⟩⟩
  rw [zup_self h.2.2.2.2.1] at a2
  refine ⟨v, X', u, Y', a1, a2, a3, a4, ?_⟩
  rcases a5 with ⟨N, f', b1, b2, b3, b4, b5, b6⟩ | a5
  · exact Or.inl ⟨N, f', b2, b3, b4, b5, b6⟩
  · exact Or.inr a5
