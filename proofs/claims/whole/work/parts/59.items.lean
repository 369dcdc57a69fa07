/-! items -/
/-- an item of the class's row, and what it makes of the reference's row -/
def zItm (w a b c : Int32) (S S' : Nat → Int32) : Prop :=
  (w = 0 ∧ ∃ m kd r bk : Nat, S 11 = nI m ∧ m < 8 ∧ a = nI kd ∧ kd < 7 ∧ b = nI r ∧ r < 8 ∧ c = nI bk ∧ bk < 61 ∧ S' = upd (upd (upd (upd S (28 + m) (nI kd)) (36 + m) (nI r)) (44 + m) (nI bk)) 11 (nI (m + 1))) ∨
  (w = 1 ∧ ∃ m p st : Nat, S 12 = nI m ∧ m < 4 ∧ a = nI p ∧ p < 40 ∧ b = nI st ∧ st < 61 ∧ S' = upd (upd (upd S (52 + m) (nI p)) (56 + m) (nI st)) 12 (nI (m + 1))) ∨
  (w = 2 ∧ ∃ x y : Nat, a = nI x ∧ x < 8 ∧ b = nI y ∧ y < 8 ∧ (c = 0 ∨ c = 1) ∧ S' = zdo c S x y) ∨
  (w = 3 ∧ ∃ k v : Nat, a = nI k ∧ k < 3 ∧ b = nI v ∧ zok (8 + k) (nI v) ∧ S' = upd S (8 + k) (nI v))
def zG7 (X X' : zI) : Prop := ∀ c s : Nat, c ≠ 38 → c ≠ 39 → X' c s = X c s
def zG8 (Y Y' : zI) : Prop := ∀ c s : Nat, c ≠ 51 → ¬ (c = 50 ∧ (s = 13 ∨ s = 14 ∨ s = 15)) → Y' c s = Y c s
theorem zG7.rf {X : zI} : zG7 X X := fun _ _ _ _ => rfl
theorem zG7.tr {X Y Z : zI} (h : zG7 X Y) (g : zG7 Y Z) : zG7 X Z := fun c s h1 h2 => (g c s h1 h2).trans (h c s h1 h2)
theorem zG8.tr {X Y Z : zI} (h : zG8 X Y) (g : zG8 Y Z) : zG8 X Z := fun c s h1 h2 => (g c s h1 h2).trans (h c s h1 h2)
theorem zF7.g {X X' : zI} (h : zF7 X X') : zG7 X X' := fun c s h1 h2 => h c s (by omega)
theorem zF8.g {X X' : zI} (h : zF8 X X') : zG8 X X' := fun c s h1 h2 => h c s h2
theorem zG7.xa {A X X' : zI} (h : zG7 X X') (g : zXA A X) : zXA A X' := fun c s hc => (h c s (by omega) (by omega)).trans (g c s hc)
theorem zG7.u4 {X : zI} {s : Nat} {v : Int32} : zG7 X (zup X 38 s v) := fun c s h1 h2 => zup_ne h1 ▸ rfl
theorem zSim.mv {b : Nat → Int32} {n T k f : Nat} {A X X' Y Y' : zI} (h : zSim b n T A k f X Y) (hX : zG7 X X') (e3 : X' 38 3 = X 38 3) (e6 : X' 38 6 = X 38 6) (hY : ∀ c : Nat, c ≠ 51 → Y' c = Y c) : zSim b n T A k f X' Y' := by
  obtain ⟨h1, h2, h3, h4, h5, h6, t, h7, h8, h9⟩ := h
  have f50 : Y' 50 = Y 50 := hY 50 (by omega)
  refine ⟨hX.xa h1, ⟨fun k hk => by rw [hY 54 (by omega)]; exact h2.1 k hk, by rw [f50]; exact h2.2.1, h2.2.2⟩, e3.trans h3, e6.trans h4, by rw [f50]; exact h5, h6, t, h7, by rw [f50]; exact h8, by rw [f50]; exact h9⟩
theorem addItem7 {X : zI} {c : Nat} (hc : X 38 2 = nI c) (hc2 : c < 30) (w x y z : Int32) : ∃ X', fX4_addItem w x y z X = some X' ∧ X' 38 2 = nI (c + 1) ∧ X' 39 (4 * c) = w ∧ X' 39 (4 * c + 1) = x ∧ X' 39 (4 * c + 2) = y ∧ X' 39 (4 * c + 3) = z ∧ (∀ s : Nat, s < 4 * c → X' 39 s = X 39 s) ∧ (∀ s : Nat, s ≠ 2 → X' 38 s = X 38 s) ∧ zG7 X X' := by
  unfold fX4_addItem
  rw [hc, if_pos (show nI c < 30 from nI_lt (b := 30) hc2 (by omega)), show nI c * (4 : Int32) = nI (4 * c) by rw [show nI c * (4 : Int32) = nI (c * 4) from pk_mul c 4, Nat.mul_comm], zl_s, nI_1, show nI (4 * c) + 2 = nI (4 * c + 2) from nI_add _ 2, show nI (4 * c) + 3 = nI (4 * c + 3) from nI_add _ 3]
  simp only [zg_k _ (show 4 * c < 120 by omega), zg_k _ (show 4 * c + 1 < 120 by omega), zg_k _ (show 4 * c + 2 < 120 by omega), zg_k _ (show 4 * c + 3 < 120 by omega), zn_k (show 4 * c < 2 ^ 31 by omega), zn_k (show 4 * c + 1 < 2 ^ 31 by omega), zn_k (show 4 * c + 2 < 2 ^ 31 by omega), zn_k (show 4 * c + 3 < 2 ^ 31 by omega), zl_s]
  refine ⟨_, rfl, ?_, ?_, ?_, ?_, ?_, fun s hs => ?_, fun s hs => ?_, fun a s h1 h2 => ?_⟩
  · rw [zup_s, zup_r (by omega), zup_r (by omega), zup_r (by omega), zup_r (by omega), hc, nI_1]
  · rw [zup_r (by omega), zup_r (by omega), zup_r (by omega), zup_r (by omega), zup_s]
  · rw [zup_r (by omega), zup_r (by omega), zup_r (by omega), zup_s]
  · rw [zup_r (by omega), zup_r (by omega), zup_s]
  · rw [zup_r (by omega), zup_s]
  · rw [zup_r (by omega), zup_r (by omega), zup_r (by omega), zup_r (by omega), zup_r (by omega)]
  · rw [zup_r (by omega), zup_r (by omega), zup_r (by omega), zup_r (by omega), zup_r (by omega)]
  · rw [zup_r (by omega), zup_r (by omega), zup_r (by omega), zup_r (by omega), zup_r (by omega)]
/-- the class alone, in the wrong -/
def zB7 (b : Nat → Int32) (n T : Nat) (A X : zI) : Prop := zTs b n T A ∧ zXA A X ∧ (∃ k : Nat, k ≤ T ∧ X 38 6 = nI k) ∧ ∃ c : Nat, c ≤ 30 ∧ X 38 2 = nI c
def zK7 (X X' : zI) : Prop := X' 38 6 = X 38 6 ∧ zG7 X X'
theorem zK7.rf {X : zI} : zK7 X X := ⟨rfl, zG7.rf⟩
theorem zK7.tr {X Y Z : zI} (h : zK7 X Y) (g : zK7 Y Z) : zK7 X Z := ⟨g.1.trans h.1, h.2.tr g.2⟩
theorem zB7.mv {b : Nat → Int32} {n T : Nat} {A X X' : zI} (h : zB7 b n T A X) (g : zK7 X X') (e : X' 38 2 = X 38 2) : zB7 b n T A X' := by
  obtain ⟨h1, h2, ⟨k, h3, h4⟩, c, h5, h6⟩ := h
  exact ⟨h1, g.2.xa h2, ⟨k, h3, g.1.trans h4⟩, c, h5, e.trans h6⟩
theorem b7_refuse {b : Nat → Int32} {n T : Nat} {A X : zI} (h : zB7 b n T A X) : fX4_refuse X = some X := by
  obtain ⟨h1, h2, ⟨k, h3, h4⟩, -⟩ := h
  have := h1.2.2.1
  unfold fX4_refuse
  rw [h4, if_neg (nI_nm1 (by omega))]
theorem zK7.up {X : zI} {s : Nat} {v : Int32} (h : s ≠ 6) : zK7 X (zup X 38 s v) := ⟨zup_r (by omega), zG7.u4⟩
theorem b7_take {b : Nat → Int32} {n T : Nat} {A X : zI} (h : zB7 b n T A X) (lo hi bar : Int32) : ∃ v X', fX4_takeNumber lo hi bar X = some (v, X') ∧ zK7 X X' ∧ zB7 b n T A X' := by
  obtain ⟨v, hv⟩ := numberAny7 h.1 h.2.1 (X 38 3)
  unfold fX4_takeNumber
  rw [hv, zb_s, within7, zb_s, zif, b7_refuse h, zb_s, zl_s]
  by_cases y : zbt lo.toInt hi.toInt v
  · rw [zite_t y]
    by_cases z : v = bar
    · rw [if_pos z]; exact ⟨_, _, rfl, zK7.rf, h⟩
    · rw [if_neg z]; exact ⟨_, _, rfl, zK7.up (by omega), h.mv (zK7.up (by omega)) (zup_r (by omega))⟩
  · rw [zite_f y]; exact ⟨_, _, rfl, zK7.rf, h⟩
theorem b7_perhaps {b : Nat → Int32} {n T : Nat} {A X : zI} (h : zB7 b n T A X) (cw lo hi els : Int32) : ∃ v X', fX4_takePerhaps cw lo hi els X = some (v, X') ∧ zK7 X X' ∧ zB7 b n T A X' := by
  obtain ⟨v, hv⟩ := wordAny7 h.1 h.2.1 (X 38 3)
  unfold fX4_takePerhaps
  rw [hv, zb_s, zl_s]
  by_cases z : v = cw
  · rw [if_pos z]
    obtain ⟨v2, X2, a1, a2, a3⟩ := b7_take (h.mv (X' := zup X 38 3 (X 38 3 + 1)) (zK7.up (by omega)) (zup_r (by omega))) lo hi (-1)
    rw [a1, zb_s]
    exact ⟨_, _, rfl, (zK7.up (by omega)).tr a2, a3⟩
  · rw [if_neg z]
    exact ⟨_, _, rfl, zK7.rf, h⟩
theorem b7_add {b : Nat → Int32} {n T : Nat} {A X : zI} (h : zB7 b n T A X) (w x y z : Int32) : ∃ X', fX4_addItem w x y z X = some X' ∧ zK7 X X' ∧ zB7 b n T A X' := by
  obtain ⟨h1, h2, ⟨k, h3, h4⟩, c, h5, h6⟩ := h
  by_cases q : c < 30
  · obtain ⟨X', a1, a2, -, -, -, -, -, a3, a4⟩ := addItem7 h6 q w x y z
    exact ⟨X', a1, ⟨a3 6 (by omega), a4⟩, h1, a4.xa h2, ⟨k, h3, (a3 6 (by omega)).trans h4⟩, c + 1, by omega, a2⟩
  · unfold fX4_addItem
    rw [h6, if_neg (show ¬ nI c < 30 from nI_nlt (b := 30) (by omega) (by omega))]
    exact ⟨X, rfl, zK7.rf, h1, h2, ⟨k, h3, h4⟩, c, h5, h6⟩
theorem b7_item {b : Nat → Int32} {n T : Nat} {A X : zI} (h : zB7 b n T A X) : ∃ X', fX4_parseItem X = some X' ∧ zK7 X X' ∧ zB7 b n T A X' := by
  have up : ∀ {Z : zI} (s : Nat) (v : Int32), s ≠ 6 → s ≠ 2 → zB7 b n T A Z → zB7 b n T A (zup Z 38 s v) := fun s v h1 h2 hZ => hZ.mv (zK7.up h1) (zup_r (by omega))
  have tail : ∀ {Z : zI} (w x y z : Int32), zB7 b n T A Z → ∃ X', (zb (fX4_addItem w x y z Z) fun o => some o) = some X' ∧ zK7 Z X' ∧ zB7 b n T A X' := fun w x y z hZ => by
    obtain ⟨X', a1, a2, a3⟩ := b7_add hZ w x y z
    rw [a1, zb_s]
    exact ⟨X', rfl, a2, a3⟩
  have door : ∀ o : Int32, ∃ X', fX4_parseDoor o X = some X' ∧ zK7 X X' ∧ zB7 b n T A X' := fun o => by
    unfold fX4_parseDoor
    rw [zl_s]
    obtain ⟨v1, X1, a1, a2, a3⟩ := b7_take (up 3 (X 38 3 + 1) (by omega) (by omega) h) 0 7 (-1)
    obtain ⟨v2, X2, b1, b2, b3⟩ := b7_take a3 0 7 v1
    rw [a1, zb_s]
    dsimp only
    rw [b1, zb_s]
    obtain ⟨X3, c1, c2, c3⟩ := tail 2 v1 v2 o b3
    exact ⟨X3, c1, (((zK7.up (by omega)).tr a2).tr b2).tr c2, c3⟩
  have rule : ∀ x most : Int32, ∃ X', fX4_parseRule x most X = some X' ∧ zK7 X X' ∧ zB7 b n T A X' := fun x most => by
    unfold fX4_parseRule
    rw [zl_s]
    obtain ⟨v1, X1, a1, a2, a3⟩ := b7_take (up 3 (X 38 3 + 1) (by omega) (by omega) h) 0 most (-1)
    rw [a1, zb_s]
    obtain ⟨X3, c1, c2, c3⟩ := tail 3 x v1 0 a3
    exact ⟨X3, c1, ((zK7.up (by omega)).tr a2).tr c2, c3⟩
  have one : ∃ X', fX4_parseOne X = some X' ∧ zK7 X X' ∧ zB7 b n T A X' := by
    unfold fX4_parseOne
    by_cases q : X 38 5 < 4
    · rw [if_pos q, zl_s, zl_s]
      obtain ⟨v1, X1, a1, a2, a3⟩ := b7_perhaps (up 3 (zup X 38 5 (X 38 5 + 1) 38 3 + 1) (by omega) (by omega) (up 5 (X 38 5 + 1) (by omega) (by omega) h)) 13 0 7 0
      obtain ⟨v2, X2, b1, b2, b3⟩ := b7_perhaps a3 15 0 4 0
      obtain ⟨v3, X3, c1, c2, c3⟩ := b7_perhaps b3 16 0 60 10
      rw [a1, zb_s]
      dsimp only
      rw [b1, zb_s]
      dsimp only
      rw [c1, zb_s]
      obtain ⟨X4, d1, d2, d3⟩ := tail 1 ((v2 * 8) + v1) v3 0 c3
      exact ⟨X4, d1, (((((zK7.up (by omega)).tr (zK7.up (by omega))).tr a2).tr b2).tr c2).tr d2, d3⟩
    · rw [if_neg q, b7_refuse h, zb_s]
      exact ⟨X, rfl, zK7.rf, h⟩
  have thing : ∀ kd : Int32, ∃ X', fX4_parseThing kd X = some X' ∧ zK7 X X' ∧ zB7 b n T A X' := fun kd => by
    unfold fX4_parseThing
    by_cases q : X 38 4 < 8
    · rw [if_pos q, zl_s, zl_s]
      obtain ⟨v1, X1, a1, a2, a3⟩ := b7_perhaps (up 3 (zup X 38 4 (X 38 4 + 1) 38 3 + 1) (by omega) (by omega) (up 4 (X 38 4 + 1) (by omega) (by omega) h)) 13 0 7 0
      obtain ⟨v2, X2, b1, b2, b3⟩ := b7_perhaps a3 14 1 60 8
      rw [a1, zb_s]
      dsimp only
      rw [b1, zb_s]
      obtain ⟨X4, d1, d2, d3⟩ := tail 0 kd v1 v2 b3
      exact ⟨X4, d1, ((((zK7.up (by omega)).tr (zK7.up (by omega))).tr a2).tr b2).tr d2, d3⟩
    · rw [if_neg q, b7_refuse h, zb_s]
      exact ⟨X, rfl, zK7.rf, h⟩
  obtain ⟨v, hv⟩ := wordAny7 h.1 h.2.1 (X 38 3)
  have wrap : ∀ {t : Option zI}, (∃ X', t = some X' ∧ zK7 X X' ∧ zB7 b n T A X') → ∃ X', (zb t fun o => some o) = some X' ∧ zK7 X X' ∧ zB7 b n T A X' := fun {t} ⟨X', e, g⟩ => ⟨X', by rw [e, zb_s], g⟩
  unfold fX4_parseItem
  rw [hv, zb_s, kind7, zb_s, zif]
  by_cases q : v = 7
  · rw [if_pos q]; exact wrap one
  rw [if_neg q]
  by_cases q : v = 8
  · rw [if_pos q]; exact wrap (door 1)
  rw [if_neg q]
  by_cases q : v = 9
  · rw [if_pos q]; exact wrap (door 0)
  rw [if_neg q]
  by_cases q : v = 10
  · rw [if_pos q]; exact wrap (rule 0 7)
  rw [if_neg q]
  by_cases q : v = 11
  · rw [if_pos q]; exact wrap (rule 1 7)
  rw [if_neg q]
  by_cases q : v = 12
  · rw [if_pos q]; exact wrap (rule 2 100)
  rw [if_neg q]
  by_cases q : zlt 7 v
  · rw [zite_t q]; exact wrap (thing v)
  · rw [zite_f q, b7_refuse h, zb_s]
    exact ⟨X, rfl, zK7.rf, h⟩
theorem zBad.k {b : Nat → Int32} {n T : Nat} {A X X' Y : zI} (h : zBad b n T A X Y) (g : zK7 X X') : zBad b n T A X' Y := by
  obtain ⟨h1, h2, h3, k, h4, h5, h6⟩ := h
  exact ⟨g.2.xa h1, h2, h3, k, h4, g.1.trans h5, h6⟩
theorem zBad.b7 {b : Nat → Int32} {n T c : Nat} {A X Y : zI} (hT : zTs b n T A) (h : zBad b n T A X Y) (hc : c ≤ 30) (e : X 38 2 = nI c) : zB7 b n T A X := by
  obtain ⟨h1, h2, h3, k, h4, h5, h6⟩ := h
  exact ⟨hT, h1, ⟨k, h4, h5⟩, c, hc, e⟩
theorem zF7.k {X X' : zI} (h : zF7 X X') (e : X' 38 6 = X 38 6) : zK7 X X' := ⟨e, h.g⟩
/-- before an item -/
def zPre (b : Nat → Int32) (n T : Nat) (A : zI) (k f c : Nat) (X Y : zI) : Prop := zSim b n T A k f X Y ∧ c < 30 ∧ X 38 2 = nI c ∧ X 38 4 = Y 51 11 ∧ X 38 5 = Y 51 12 ∧ zWF (Y 51)
/-- behind it -/
def zRes (b : Nat → Int32) (n T : Nat) (A : zI) (f c : Nat) (X Y X' Y' : zI) : Prop := zG7 X X' ∧ zG8 Y Y' ∧ (∃ c' : Nat, c' ≤ 30 ∧ X' 38 2 = nI c') ∧ ((∃ k' f' : Nat, f + 3 ≤ f' ∧ zSim b n T A k' f' X' Y' ∧ X' 38 2 = nI (c + 1) ∧ (∀ s : Nat, s < 4 * c → X' 39 s = X 39 s) ∧ X' 38 4 = Y' 51 11 ∧ X' 38 5 = Y' 51 12 ∧ zWF (Y' 51) ∧ zItm (X' 39 (4 * c)) (X' 39 (4 * c + 1)) (X' 39 (4 * c + 2)) (X' 39 (4 * c + 3)) (Y 51) (Y' 51)) ∨ zBad b n T A X' Y')
/-- the class goes on in the wrong to the item's end -/
theorem res_bad {b : Nat → Int32} {n T f c : Nat} {A X Y X1 Y1 X' : zI} (hc : c ≤ 30) (hX : zG7 X X1) (hY : zG8 Y Y1) (hB : zBad b n T A X1 Y1) (hK : zK7 X1 X') (h7 : zB7 b n T A X') : zRes b n T A f c X Y X' Y1 :=
  ⟨hX.tr hK.2, hY, h7.2.2.2, Or.inr (hB.k hK)⟩
theorem up51 {Y Y' : zI} (h : ∀ c : Nat, c ≠ 51 → Y' c = Y c) : zG8 Y Y' := fun c s h1 _ => by rw [h c h1]
theorem zWF_many {S : Nat → Int32} {m : Nat} (h : zWF S) (hm : S 11 = nI m) (hm2 : m < 8) : zWF (upd S 11 (nI (m + 1))) := by
  refine ⟨fun j hj => ?_, fun k hk => ?_, fun a b ha hb => ?_⟩
  · unfold upd
    by_cases q : j = 11
    · rw [if_pos q, q]; exact ⟨m + 1, by omega, rfl⟩
    · rw [if_neg q]; exact h.1 j hj
  · unfold upd
    rw [if_neg (by omega), if_pos rfl]
    rcases h.2.1 k hk with q | ⟨t, m2, q1, q2, q3, q4⟩
    · exact Or.inl q
    · have : m2 = m := (nI_eq (by omega) (by omega)).mp (q3.symm.trans hm)
      exact Or.inr ⟨t, m + 1, by omega, by omega, rfl, q4⟩
  · unfold upd
    rw [if_neg (by omega), if_neg (by omega)]
    exact h.2.2 a b ha hb
theorem zWF_door {S : Nat → Int32} (h : zWF S) {x y : Nat} (hx : x < 8) (hy : y < 8) (v : Int32) : zWF (zdo v S x y) := by
  have hl : ∀ k : Nat, k < 8 → zlt 256 (upd S x (zdr v (S x) (nI y)) k) := by
    intro k hk
    unfold upd
    by_cases q : k = x
    · rw [if_pos q]; exact zdr_lt (h.door hx) ⟨y, hy, rfl⟩
    · rw [if_neg q]; exact h.door hk
  refine ⟨fun j hj => ?_, fun k hk => ?_, zsy_door h hx hy v⟩
  · unfold zdo
    by_cases q : j = y
    · rw [show upd (upd S x (zdr v (S x) (nI y))) y (zdr v (upd S x (zdr v (S x) (nI y)) y) (nI x)) j = zdr v (upd S x (zdr v (S x) (nI y)) y) (nI x) by
        show (if j = y then _ else _) = _
        rw [if_pos q], q, zok_door hy]
      exact zdr_lt (hl y hy) ⟨x, hx, rfl⟩
    · rw [show upd (upd S x (zdr v (S x) (nI y))) y (zdr v (upd S x (zdr v (S x) (nI y)) y) (nI x)) j = upd S x (zdr v (S x) (nI y)) j by
        show (if j = y then _ else _) = _
        rw [if_neg q]]
      by_cases q2 : j = x
      · rw [q2, zok_door hx]; exact hl x hx
      · rw [show upd S x (zdr v (S x) (nI y)) j = S j by
          show (if j = x then _ else _) = _
          rw [if_neg q2]]
        exact h.1 j hj
  · unfold zdo upd
    rw [if_neg (by omega), if_neg (by omega), if_neg (by omega), if_neg (by omega)]
    exact h.2.1 k hk
