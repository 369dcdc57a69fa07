/-! tasks tried: kindFor, place, strong -/
theorem trial_rel {I J : zI} (h : zRel I J) : ∃ X, fX6_become 19 1 I = some X ∧ zRw 19 X J ∧ (∀ c, ¬ (19 ≤ c ∧ c ≤ 27) → X c = I c) := by
  obtain ⟨D, e1, hD⟩ := become6 (w := 19) (a := 1) (by omega) I
  exact ⟨_, e1, ⟨fun k hk => by rw [become_row hD hk]; exact h.1.1 k hk, h.wf⟩, fun c hc => zcp_out (by omega)⟩
/-- what the loops keep; x: the place of the row that is tried -/
def zTy (I J : zI) (x : Nat) (b f : Int32) (X Y : zI) : Prop := zBs b f ∧ Y 50 11 = b ∧ Y 50 12 = f ∧ zRw 19 X Y ∧ (∀ c : Nat, ¬ (19 ≤ c ∧ c ≤ 32) → X c = I c) ∧ (∀ k : Nat, k < 120 → k ≠ x → Y 51 k = J 51 k) ∧ zSd J Y
theorem try_one {I J X Y : zI} {x n i t r : Nat} {M : zL} {b f : Int32} (h : zTy I J x b f X Y) (hi : i < 4) (ht : t < 8) (hr : r < 8) (hn : n < 100) : ∃ (v : Int32) (X' : zI) (M' : zL) (Y1 Y' : zI), fX1_fewestFor 1000 19 (nI i) (nI t) (nI r) X M = some (v, X', M') ∧ fX8_stepsOf 1000 (nI i) (nI t) (nI r) Y = some (v, Y1) ∧ fX8_tries (nI n) v Y1 = some Y' ∧ zTy I J x (zite (zFe v f) (nI n) b) (zite (zFe v f) v f) X' Y' ∧ Y' 51 = Y 51 := by
  obtain ⟨h1, h2, h3, h4, h5, h6, h7⟩ := h
  obtain ⟨p0, hp, ep⟩ := h4.2.place hi
  obtain ⟨r0, hr0, er⟩ := h4.2.room ht
  obtain ⟨v, X1, M1, Y1, a1, a2, a3, a4, a5⟩ := few_both (L := M) (w := 19) (by omega) h4 hi ht hr hp hr0 ep er
  obtain ⟨Y2, b1, b2, b3, b4, b5⟩ := tries8 (x := nI n) (Y := Y1) h1 (zLe_val a5) ((a4 50 11 (by omega) (by omega) (by omega)).trans h2) ((a4 50 12 (by omega) (by omega) (by omega)).trans h3)
  have e51 : Y2 51 = Y 51 := b4.trans a4.row
  exact ⟨v, X1, M1, Y1, Y2, a1, a2, b1, ⟨zBs_new h1 (zLe_val a5) hn, b2, b3, zRw_congr h4 (fun c c1 c2 => a3 c (by omega)) e51, fun c hc => (a3 c (by omega)).trans (h5 c hc), fun k hk hx => by rw [e51]; exact h6 k hk hx, h7.tr (a4.sd.tr b5)⟩, e51⟩
theorem zTy_up {I J X Y : zI} {x c s : Nat} {b f v : Int32} (h : zTy I J x b f X Y) (hx : x < 120) (hc : zcm 19 x = (c, s)) (hv : zok x v) (hn : 8 ≤ x ∧ x ≠ 11 ∧ ¬ (18 ≤ x ∧ x < 28)) : zTy I J x b f (zup X c s v) (zup Y 51 x v) := by
  obtain ⟨h1, h2, h3, h4, h5, h6, h7⟩ := h
  have hr := zcm_range (w := 19) hx
  rw [hc] at hr
  refine ⟨h1, (zup_r (by omega)).trans h2, (zup_r (by omega)).trans h3, zRw_up h4 hx hc hv hn, fun c' hc' => ?_, fun k hk hkx => (zup_r (by omega)).trans (h6 k hk hkx), h7.tr zSd.up⟩
  have : c' ≠ c := by
    have h1 : 19 ≤ c ∧ c ≤ 19 + 8 := hr
    omega
  exact (zup_ne this).trans (h5 c' hc')
theorem zTy_end {I J X Y : zI} {x : Nat} {b f : Int32} {L : zL} (h : zRel I J) (g : zTy I J x b f X Y) : ∃ (r : Int32) (I' : zI) (L' : zL) (J' : zI), (zb (fX7_foundOrNone b X) fun o => some (o.1, o.2, L)) = some (r, I', L') ∧ (zb (fX8_orNone (zup Y 51 x (J 51 x) 50 11) (zup Y 51 x (J 51 x))) fun o => some (o.1, o.2)) = some (r, J') ∧ zRel I' J' ∧ zO7 I I' ∧ zO8 J J' := by
  obtain ⟨h1, h2, h3, h4, h5, h6, h7⟩ := g
  rw [zup_r (by omega), h2]
  refine none_leafS (zBs_val h1) (side_rel h h5 (fun k hk => ?_) (h7.tr zSd.up))
  rw [zup_at]
  by_cases z : k = x
  · rw [if_pos ⟨rfl, z⟩, z]
  · rw [if_neg (fun y => z y.2)]; exact h6 k hk z
theorem q_kindFor (a b c : Int32) (I J : zI) (L : zL) (h : zRel I J) : ∃ r I' L' J', fX7_kindFor 1000 a b c I L = some (r, I', L') ∧ fX8_kindFor 1000 a b c J = some (r, J') ∧ zRel I' J' ∧ zO7 I I' ∧ zO8 J J' := by
  obtain ⟨m, hm, e8, e7⟩ := h.folk
  obtain ⟨n, hn, t8, t7⟩ := h.many
  unfold fX7_kindFor fX8_kindFor
  rw [isTask7 e7 hm t7 hn, isTask8 e8 hm t8 hn, zb_s, zb_s, zif, zif]
  by_cases q : ¬ (zlt m a ∧ zlt n b ∧ zlt 8 c)
  · rw [zite_f q, zite_f q]; exact fin_leafS h 0
  replace q := Classical.not_not.mp q
  rw [zite_t q, zite_t q]
  obtain ⟨⟨i, hi, rfl⟩, ⟨t, ht, rfl⟩, ⟨r, hr, rfl⟩⟩ := q
  have ht8 : t < 8 := by omega
  obtain ⟨X0, x1, x2, x3⟩ := trial_rel h
  obtain ⟨Y0, y1, y2, y3, y4, y5⟩ := begins8 J
  rw [x1, zb_s, show (28 : Int32) + nI t = nI (28 + t) from nI_add 28 t, zg_k _ (show 28 + t < 120 by omega), zn_k (show 28 + t < 2 ^ 31 by omega), zl_s, y1, zb_s]
  obtain ⟨⟨bb, I', L'⟩, Y', e1, e2, ff, e3⟩ := zit_rel (g := gX7_kindFor_37 1000 (nI i) (nI t) (nI r)) (f := gX8_kindFor_34 1000 (nI i) (nI t) (nI r)) (fun k x y => ∃ (j : Nat) (b f : Int32) (X : zI) (M : zL) (Y : zI), j ≤ 7 ∧ k = 7 - j ∧ x = (b, f, nI j, X, M) ∧ y = (nI j, Y) ∧ zTy I J (28 + t) b f X Y) (fun (x : Int32 × zI × zL) (y : zI) => ∃ f : Int32, zTy I J (28 + t) x.1 f x.2.1 y) (by
    rintro k x y ⟨j, b, f, X, M, Y, hj, rfl, rfl, rfl, hT⟩
    unfold gX7_kindFor_37 gX8_kindFor_34
    dsimp only
    by_cases q : j = 7
    · subst q
      right
      rw [if_pos (show (7 : Int32) ≤ nI 7 from Int32.le_refl _), if_pos (show (7 : Int32) ≤ nI 7 from Int32.le_refl _)]
      exact ⟨_, _, rfl, rfl, f, hT⟩
    left
    have hj2 : j < 7 := by omega
    rw [if_neg (show ¬ (7 : Int32) ≤ nI j from zz_nle (b := 7) (by omega) hj2), if_neg (show ¬ (7 : Int32) ≤ nI j from zz_nle (b := 7) (by omega) hj2), zg_k _ ht8, zn_k (show t < 2 ^ 31 by omega), show (28 : Int32) + nI t = nI (28 + t) from nI_add 28 t, zg_k _ (show 28 + t < 120 by omega), zn_k (show 28 + t < 2 ^ 31 by omega), zl_s, zl_s, nI_1]
    obtain ⟨v, X1, M1, Y1, Y2, a1, a2, a3, a4, -⟩ := try_one (M := M) (n := j) (zTy_up hT (by omega) (zcm_kind (w := 19) ht8) (v := nI j) (by rw [zok_kind ht8]; exact ⟨j, hj2, rfl⟩) (by omega)) (show i < 4 by omega) ht8 hr (by omega)
    rw [show fX1_fewestFor 1000 19 (nI i) (nI t) (nI r) (zup X 21 t (nI j)) M = _ from a1, a2, zb_s, zb_s]
    dsimp only
    rw [a3, fewer7, zb_s, zb_s, zif, zl_s, zl_s, zl_s]
    refine ⟨(zite (zFe v f) (nI j) b, zite (zFe v f) v f, nI (j + 1), X1, M1), _, 7 - (j + 1), ?_, rfl, by omega, j + 1, _, _, X1, M1, Y2, by omega, rfl, rfl, rfl, a4⟩
    by_cases z : zFe v f
    · rw [zite_t z, zite_t z, zite_t z]
    · rw [zite_f z, zite_f z, zite_f z]) 1000 7 ((-1), (-1), 0, X0, L) (0, Y0) ⟨0, -1, -1, X0, L, Y0, by omega, rfl, rfl, rfl, Or.inl ⟨rfl, rfl⟩, y2, y3, zRw_congr x2 (fun _ _ _ => rfl) y4, fun c hc => x3 c (by omega), fun k _ _ => by rw [y4], y5⟩ (by omega)
  rw [e1, e2, zb_s, zb_s, zg_k _ (show 28 + t < 120 by omega), zl_s]
  exact zTy_end h e3
theorem q_place (a b c : Int32) (I J : zI) (L : zL) (h : zRel I J) : ∃ r I' L' J', fX7_place 1000 a b c I L = some (r, I', L') ∧ fX8_place 1000 a b c J = some (r, J') ∧ zRel I' J' ∧ zO7 I I' ∧ zO8 J J' := by
  obtain ⟨m, hm, e8, e7⟩ := h.folk
  obtain ⟨n, hn, t8, t7⟩ := h.many
  have g8 : ∀ {α : Type} (t : Option α), zg 8 120 t = t := fun t => zg_k (i := 8) t (by decide)
  have n8 : zn 8 = 8 := rfl
  unfold fX7_place fX8_place
  rw [isTask7 e7 hm t7 hn, isTask8 e8 hm t8 hn, zb_s, zb_s, zif, zif]
  by_cases q : ¬ (zlt m a ∧ zlt n b ∧ zlt 8 c)
  · rw [zite_f q, zite_f q]; exact fin_leafS h 0
  replace q := Classical.not_not.mp q
  rw [zite_t q, zite_t q]
  obtain ⟨⟨i, hi, rfl⟩, ⟨t, ht, rfl⟩, ⟨r, hr, rfl⟩⟩ := q
  have ht8 : t < 8 := by omega
  obtain ⟨X0, x1, x2, x3⟩ := trial_rel h
  obtain ⟨Y0, y1, y2, y3, y4, y5⟩ := begins8 J
  rw [x1, zb_s, g8, n8, zl_s, y1, zb_s]
  obtain ⟨⟨bb, I', L'⟩, Y', e1, e2, ff, e3⟩ := zit_rel (g := gX7_place_37 1000 (nI i) (nI t) (nI r)) (f := gX8_place_32 1000 (nI i) (nI t) (nI r)) (fun k x y => ∃ (j : Nat) (b f : Int32) (X : zI) (M : zL) (Y : zI), j ≤ 8 ∧ k = 8 - j ∧ x = (b, f, nI j, X, M) ∧ y = (nI j, Y) ∧ zTy I J 8 b f X Y) (fun (x : Int32 × zI × zL) (y : zI) => ∃ f : Int32, zTy I J 8 x.1 f x.2.1 y) (by
    rintro k x y ⟨j, b, f, X, M, Y, hj, rfl, rfl, rfl, hT⟩
    unfold gX7_place_37 gX8_place_32
    dsimp only
    by_cases q : j = 8
    · subst q
      right
      rw [if_pos (show (8 : Int32) ≤ nI 8 from Int32.le_refl _), if_pos (show (8 : Int32) ≤ nI 8 from Int32.le_refl _)]
      exact ⟨_, _, rfl, rfl, f, hT⟩
    left
    have hj2 : j < 8 := by omega
    rw [if_neg (show ¬ (8 : Int32) ≤ nI j from zz_nle (b := 8) (by omega) hj2), if_neg (show ¬ (8 : Int32) ≤ nI j from zz_nle (b := 8) (by omega) hj2), g8, n8, zl_s, zl_s, nI_1]
    obtain ⟨v, X1, M1, Y1, Y2, a1, a2, a3, a4, -⟩ := try_one (M := M) (n := j) (zTy_up hT (x := 8) (c := 19) (s := 1) (by omega) rfl (v := nI j) (show zok 8 (nI j) from (⟨j, hj2, rfl⟩ : zlt 8 (nI j))) (by omega)) (show i < 4 by omega) ht8 hr (by omega)
    rw [a1, a2, zb_s, zb_s]
    dsimp only
    rw [a3, fewer7, zb_s, zb_s, zif, zl_s, zl_s, zl_s]
    refine ⟨(zite (zFe v f) (nI j) b, zite (zFe v f) v f, nI (j + 1), X1, M1), _, 8 - (j + 1), ?_, rfl, by omega, j + 1, _, _, X1, M1, Y2, by omega, rfl, rfl, rfl, a4⟩
    by_cases z : zFe v f
    · rw [zite_t z, zite_t z, zite_t z]
    · rw [zite_f z, zite_f z, zite_f z]) 1000 8 ((-1), (-1), 0, X0, L) (0, Y0) ⟨0, -1, -1, X0, L, Y0, by omega, rfl, rfl, rfl, Or.inl ⟨rfl, rfl⟩, y2, y3, zRw_congr x2 (fun _ _ _ => rfl) y4, fun c hc => x3 c (by omega), fun k _ _ => by rw [y4], y5⟩ (by omega)
  rw [e1, e2, zb_s, zb_s, g8, zl_s]
  exact zTy_end h e3
/-- the row with another strength -/
def zSk (S : Nat → Int32) (i k : Nat) : Nat → Int32 := upd S (56 + i) (nI k)
def zEk (S : Nat → Int32) (i t k : Nat) : Nat → Nat → Prop := zE (zSk S i k) (zlg (zSk S i k) i t) (fun l => zlg (zSk S i k) i t (l + 1))
theorem zSk_o {S : Nat → Int32} {i k j : Nat} (h : j ≠ 56 + i) : zSk S i k j = S j := by unfold zSk upd; rw [if_neg h]
theorem zSk_s {S : Nat → Int32} {i k : Nat} : zSk S i k (56 + i) = nI k := by unfold zSk upd; rw [if_pos rfl]
theorem zlg_k {S : Nat → Int32} {i t k l : Nat} (ht : t < 8) : zlg (zSk S i k) i t l ↔ ¬ nI k < zheft (S (28 + t)) (S (44 + t)) (nI l) := by
  unfold zlg
  rw [zSk_s, zSk_o (by omega), zSk_o (by omega)]
theorem zlg_kk {S : Nat → Int32} {i t k l : Nat} (ht : t < 8) (hk : k < 61) (h : ¬ zheft (S (28 + t)) (S (44 + t)) (nI l) = nI (k + 1)) : zlg (zSk S i (k + 1)) i t l ↔ zlg (zSk S i k) i t l := by
  rw [zlg_k ht, zlg_k ht, Int32.lt_iff_toInt_lt, Int32.lt_iff_toInt_lt, nI_toInt (by omega), nI_toInt (by omega)]
  have : (zheft (S (28 + t)) (S (44 + t)) (nI l)).toInt ≠ ((k + 1 : Nat) : Int) := fun z => h (Int32.toInt_inj.mp (by rw [z, nI_toInt (by omega)]))
  omega
theorem zop_k {S : Nat → Int32} {i k k' a b : Nat} (ha : a < 8) : zop (zSk S i k) a b ↔ zop (zSk S i k') a b := by
  unfold zop
  rw [zSk_o (by omega), zSk_o (by omega)]
theorem zstp_k {S : Nat → Int32} {i k k' p q : Nat} : zstp (zSk S i k) p q ↔ zstp (zSk S i k') p q := by
  unfold zstp
  rw [zop_k (k' := k') (show p % 8 < 8 by omega), zSk_o (k := k) (j := 8) (by omega), zSk_o (k := k) (j := 9) (by omega), zSk_o (k := k') (j := 8) (by omega), zSk_o (k := k') (j := 9) (by omega)]
theorem zEk_eq {S : Nat → Int32} {i t k : Nat} (ht : t < 8) (hk : k < 61) (h : ∀ l : Nat, l < 5 → ¬ zheft (S (28 + t)) (S (44 + t)) (nI l) = nI (k + 1)) : zEk S i t (k + 1) = zEk S i t k := by
  funext x y
  apply propext
  unfold zEk zE
  rw [zstp_k (k' := k), zop_k (k' := k) (show x / 8 % 8 < 8 by omega), zSk_o (k := k + 1) (j := 8) (by omega), zSk_o (k := k) (j := 8) (by omega)]
  constructor
  · rintro ⟨h1, h2, (h3 | h3 | h3)⟩
    · exact ⟨h1, h2, Or.inl h3⟩
    · exact ⟨h1, h2, Or.inr (Or.inl ⟨(zlg_kk ht hk (h _ (by omega))).mp h3.1, h3.2⟩)⟩
    · exact ⟨h1, h2, Or.inr (Or.inr ⟨(zlg_kk ht hk (h _ (by omega))).mp h3.1, h3.2⟩)⟩
  · rintro ⟨h1, h2, (h3 | h3 | h3)⟩
    · exact ⟨h1, h2, Or.inl h3⟩
    · exact ⟨h1, h2, Or.inr (Or.inl ⟨(zlg_kk ht hk (h _ (by omega))).mpr h3.1, h3.2⟩)⟩
    · exact ⟨h1, h2, Or.inr (Or.inr ⟨(zlg_kk ht hk (h _ (by omega))).mpr h3.1, h3.2⟩)⟩
theorem some7 {w t : Nat} {X : zI} {k b v : Int32} (ht : t < 8) (hk : X (w + 2) t = k) (hb : X (w + 4) t = b) : fX6_weighsSomewhere 1000 w (nI t) v X = some (zp (∃ l : Nat, l < 5 ∧ zheft k b (nI l) = v)) := by
  obtain ⟨r, e1, e2⟩ := zit_one (g := gX6_weighsSomewhere_2 w (nI t) v X) (fun m y => ∃ j : Nat, j ≤ 5 ∧ m = 5 - j ∧ y = nI j ∧ ∀ l : Nat, l < j → ¬ zheft k b (nI l) = v) (fun r : Int32 ⊕ Unit => (r = .inl 1 ∧ ∃ l : Nat, l < 5 ∧ zheft k b (nI l) = v) ∨ (r = .inr () ∧ ¬ ∃ l : Nat, l < 5 ∧ zheft k b (nI l) = v)) (by
    rintro m y ⟨j, hj, rfl, rfl, h1⟩
    unfold gX6_weighsSomewhere_2
    by_cases q : j = 5
    · subst q
      right
      rw [if_pos (show (5 : Int32) ≤ nI 5 from Int32.le_refl _)]
      exact ⟨_, rfl, Or.inr ⟨rfl, fun ⟨l, hl, z⟩ => h1 l hl z⟩⟩
    have hj2 : j < 5 := by omega
    rw [if_neg (show ¬ (5 : Int32) ≤ nI j from zz_nle (b := 5) (by omega) hj2)]
    unfold fX6_weightIn
    rw [zg_k _ ht, zg_k _ ht, zn_k (show t < 2 ^ 31 by omega), hk, hb, weight7, zb_s, zb_s, nI_1]
    by_cases z : zheft k b (nI j) = v
    · right
      rw [if_pos z]
      exact ⟨_, rfl, Or.inl ⟨rfl, j, hj2, z⟩⟩
    · left
      rw [if_neg z, zl_s]
      refine ⟨_, 5 - (j + 1), rfl, by omega, j + 1, by omega, rfl, rfl, fun l hl => ?_⟩
      by_cases y : l = j
      · rw [y]; exact z
      · exact h1 l (by omega)) 1000 5 0 ⟨0, by omega, rfl, rfl, fun l hl => absurd hl (by omega)⟩ (by omega)
  unfold fX6_weighsSomewhere
  rw [e1]
  rcases e2 with ⟨rfl, z⟩ | ⟨rfl, z⟩
  · rw [zbs_l, zp_t z]
  · rw [zbs_r, zp_f z]
theorem zSk_up {Y : zI} {S : Nat → Int32} {i k j : Nat} (h : Y 51 = zSk S i k) : zup Y 51 (56 + i) (nI j) 51 = zSk S i j := by
  rw [zup_same, h]
  funext x
  unfold zSk upd
  by_cases q : x = 56 + i
  · rw [if_pos q, if_pos q]
  · rw [if_neg q, if_neg q, if_neg q]
theorem zSk_wf {S : Nat → Int32} {i k : Nat} (h : zWF S) (hi : i < 4) (hk : k < 61) : zWF (zSk S i k) := zWF_upd h (by rw [zok_strength hi]; exact ⟨k, hk, rfl⟩) (by omega)
theorem q_strong (a b c : Int32) (I J : zI) (L : zL) (h : zRel I J) : ∃ r I' L' J', fX7_strong 1000 a b c I L = some (r, I', L') ∧ fX8_strong 1000 a b c J = some (r, J') ∧ zRel I' J' ∧ zO7 I I' ∧ zO8 J J' := by
  obtain ⟨m, hm, e8, e7⟩ := h.folk
  obtain ⟨n, hn, t8, t7⟩ := h.many
  unfold fX7_strong fX8_strong
  rw [isTask7 e7 hm t7 hn, isTask8 e8 hm t8 hn, zb_s, zb_s, zif, zif]
  by_cases q : ¬ (zlt m a ∧ zlt n b ∧ zlt 8 c)
  · rw [zite_f q, zite_f q]; exact fin_leafS h 0
  replace q := Classical.not_not.mp q
  rw [zite_t q, zite_t q]
  obtain ⟨⟨i, hi, rfl⟩, ⟨t, ht, rfl⟩, ⟨r, hr, rfl⟩⟩ := q
  have ht8 : t < 8 := by omega
  have hi4 : i < 4 := by omega
  obtain ⟨X0, x1, x2, x3⟩ := trial_rel h
  obtain ⟨p0, hp, ep⟩ := h.wf.place hi4
  obtain ⟨r0, hr0, er⟩ := h.wf.room ht8
  rw [x1, zb_s, show (56 : Int32) + nI i = nI (56 + i) from nI_add 56 i, zg_k _ (show 56 + i < 120 by omega), zn_k (show 56 + i < 2 ^ 31 by omega), zl_s, zg_k _ (show 56 + i < 120 by omega), zl_s]
  obtain ⟨r', ⟨u1, u2⟩, e1, e2, e3⟩ := zit_rel (g := gX7_strong_31 1000 (nI i) (nI t) (nI r)) (f := gX8_strong_41 1000 (nI i) (nI t) (nI r)) (fun k x y => ∃ (j : Nat) (X : zI) (M : zL) (Y : zI), j ≤ 61 ∧ k = 61 - j ∧ x = (nI j, X, M) ∧ y = (nI j, Y) ∧ (∀ c : Nat, ¬ (19 ≤ c ∧ c ≤ 32) → X c = I c) ∧ (∀ k : Nat, k < 120 → k ≠ 56 + i → rW X 19 k = J 51 k) ∧ Y 51 = zSk (J 51) i j ∧ zSd J Y ∧ (∀ k : Nat, j = k + 1 → zLe (zEk (J 51) i t k) (8 * p0 + r0) r (-1))) (fun (x : (Int32 × zI × zL) ⊕ (zI × zL)) (y : Int32 × zI) => ∃ (j : Nat) (X : zI) (M : zL), ((j ≤ 60 ∧ x = .inl (nI j, X, M)) ∨ (j = 61 ∧ x = .inr (X, M))) ∧ y.1 = nI j ∧ (∀ c : Nat, ¬ (19 ≤ c ∧ c ≤ 32) → X c = I c) ∧ y.2 51 = zSk (J 51) i j ∧ zSd J y.2) (by
    rintro k x y ⟨j, X, M, Y, hj, rfl, rfl, rfl, hX, hRo, hY, hS, hL⟩
    by_cases q : j = 61
    · subst q
      right
      unfold gX7_strong_31 gX8_strong_41
      dsimp only
      rw [if_pos (show (60 : Int32) < nI 61 by decide), if_pos (show (60 : Int32) < nI 61 by decide)]
      exact ⟨_, _, rfl, rfl, 61, X, M, Or.inr ⟨rfl, rfl⟩, rfl, hX, hY, hS⟩
    have hj2 : j < 61 := by omega
    -- what the reference finds, and what the class would find
    have hw : zRw 19 (zup X 25 i (nI j)) Y := by
      refine ⟨fun k hk => ?_, by rw [hY]; exact zSk_wf h.wf hi4 hj2⟩
      have e := rW_up (I := X) (w := 19) (j := 56 + i) (k := k) (v := nI j) (by omega) hk
      rw [zcm_strength hi4] at e
      rw [show rW (zup X 25 i (nI j)) 19 k = _ from e, hY]
      unfold zSk upd
      by_cases z : k = 56 + i
      · rw [if_pos z, if_pos z]
      · rw [if_neg z, if_neg z]; exact hRo k hk z
    obtain ⟨v, X1, M1, Y1, a1, a2, a3, a4, a5⟩ := few_both (L := M) (w := 19) (by omega) hw hi4 ht8 hr hp hr0 (by rw [hY, zSk_o (by omega)]; exact ep) (by rw [hY, zSk_o (by omega)]; exact er)
    rw [hY] at a5
    have a5 : zLe (zEk (J 51) i t j) (8 * p0 + r0) r v := a5
    have L8 : gX8_strong_41 1000 (nI i) (nI t) (nI r) (nI j, Y) = if 0 ≤ v then some (.inr (nI j, Y1)) else some (.inl (nI (j + 1), zup Y1 51 (56 + i) (nI (j + 1)))) := by
      unfold gX8_strong_41
      dsimp only
      rw [if_neg (show ¬ (60 : Int32) < nI j from nI_nlt (b := j) (a := 60) (by omega) (by omega)), a2, zb_s, nI_1, zl_s, show (56 : Int32) + nI i = nI (56 + i) from nI_add 56 i, zg_k _ (show 56 + i < 120 by omega), zn_k (show 56 + i < 2 ^ 31 by omega), zl_s]
    have next : ∀ (X' : zI), (∀ c : Nat, ¬ (19 ≤ c ∧ c ≤ 32) → X' c = I c) → (∀ k : Nat, k < 120 → k ≠ 56 + i → rW X' 19 k = J 51 k) → ∀ M' : zL, v = (-1) → ∃ (j' : Nat) (X : zI) (M : zL) (Y : zI), j' ≤ 61 ∧ 61 - (j + 1) = 61 - j' ∧ (nI (j + 1), X', M') = (nI j', X, M) ∧ (nI (j + 1), zup Y1 51 (56 + i) (nI (j + 1))) = (nI j', Y) ∧ (∀ c : Nat, ¬ (19 ≤ c ∧ c ≤ 32) → X c = I c) ∧ (∀ k : Nat, k < 120 → k ≠ 56 + i → rW X 19 k = J 51 k) ∧ Y 51 = zSk (J 51) i j' ∧ zSd J Y ∧ (∀ k : Nat, j' = k + 1 → zLe (zEk (J 51) i t k) (8 * p0 + r0) r (-1)) := by
      intro X' h1 h2 M' hv
      refine ⟨j + 1, X', M', _, by omega, rfl, rfl, rfl, h1, h2, zSk_up (a4.row.trans hY), hS.tr (a4.sd.tr zSd.up), fun k hk => ?_⟩
      have : k = j := by omega
      subst this
      rw [← hv]
      exact a5
    have T7 : (zg (nI i) 4 (zl (zup X 25 (zn (nI i)) (nI j)) fun J22 => zb (fX1_fewestFor 1000 19 (nI i) (nI t) (nI r) J22 M) fun o26 => if o26.1 = (-1) then zl (nI j + 1) fun v27 => some (.inl (v27, o26.2.1, o26.2.2)) else some (.inr (.inl (nI j, o26.2.1, o26.2.2)))) : Option ((Int32 × zI × zL) ⊕ ((Int32 × zI × zL) ⊕ (zI × zL)))) = if v = (-1) then some (.inl (nI (j + 1), X1, M1)) else some (.inr (.inl (nI j, X1, M1))) := by
      rw [zg_k _ hi4, zn_k (show i < 2 ^ 31 by omega), zl_s, a1, zb_s, nI_1]
      rfl
    by_cases cs : j = 0 ∨ ∃ l : Nat, l < 5 ∧ zheft (J 51 (28 + t)) (J 51 (44 + t)) (nI l) = nI j
    · have L7 : gX7_strong_31 1000 (nI i) (nI t) (nI r) (nI j, X, M) = if v = (-1) then some (.inl (nI (j + 1), X1, M1)) else some (.inr (.inl (nI j, X1, M1))) := by
        rw [← T7]
        unfold gX7_strong_31
        dsimp only
        rw [if_neg (show ¬ (60 : Int32) < nI j from nI_nlt (b := j) (a := 60) (by omega) (by omega))]
        by_cases z : j = 0
        · rw [if_pos (show nI j = 0 by rw [z]; rfl), zbs_r]
        · rw [if_neg (nI_ne0 (by omega) (by omega)), some7 (w := 19) ht8 (show X (19 + 2) t = J 51 (28 + t) by
            have := hRo (28 + t) (by omega) (by omega)
            unfold rW at this
            rw [zcm_kind ht8] at this
            exact this) (show X (19 + 4) t = J 51 (44 + t) by
            have := hRo (44 + t) (by omega) (by omega)
            unfold rW at this
            rw [zcm_bulk ht8] at this
            exact this), zb_s, zif, zite_t (cs.resolve_left z), zbs_r]
      have fX : ∀ c : Nat, ¬ (19 ≤ c ∧ c ≤ 32) → X1 c = I c := fun c hc => (a3 c (by omega)).trans ((zup_ne (by omega)).trans (hX c hc))
      rw [L7, L8]
      rcases zLe_val a5 with hv | ⟨k, hk, hv⟩
      · left
        refine ⟨_, _, 61 - (j + 1), if_pos hv, if_neg (by rw [hv]; decide), by omega, next X1 fX (fun k hk hx => ?_) M1 hv⟩
        have e := hw.1 k hk
        rw [hY, zSk_o hx] at e
        rw [← e]
        unfold rW
        have := zcm_range (w := 19) hk
        rw [a3 _ (by omega)]
      · right
        exact ⟨_, _, if_neg (by rw [hv]; exact nI_nm1 (by omega)), if_pos (by rw [hv]; exact nI_pos' (by omega)), j, X1, M1, Or.inl ⟨by omega, rfl⟩, rfl, fX, a4.row.trans hY, hS.tr a4.sd⟩
    · have z : ¬ j = 0 := fun y => cs (Or.inl y)
      have L7 : gX7_strong_31 1000 (nI i) (nI t) (nI r) (nI j, X, M) = some (.inl (nI (j + 1), X, M)) := by
        unfold gX7_strong_31
        dsimp only
        rw [if_neg (show ¬ (60 : Int32) < nI j from nI_nlt (b := j) (a := 60) (by omega) (by omega)), if_neg (nI_ne0 (by omega) (by omega)), some7 (w := 19) ht8 (show X (19 + 2) t = J 51 (28 + t) by
            have := hRo (28 + t) (by omega) (by omega)
            unfold rW at this
            rw [zcm_kind ht8] at this
            exact this) (show X (19 + 4) t = J 51 (44 + t) by
            have := hRo (44 + t) (by omega) (by omega)
            unfold rW at this
            rw [zcm_bulk ht8] at this
            exact this), zb_s, zif, zite_f (fun y => cs (Or.inr y)), zl_s, zbs_l, nI_1]
      obtain ⟨k, rfl⟩ : ∃ k, j = k + 1 := ⟨j - 1, by omega⟩
      have hv : v = (-1) := by
        have e := zEk_eq (S := J 51) (i := i) ht8 (show k < 61 by omega) (fun l hl y => cs (Or.inr ⟨l, hl, y⟩))
        rw [e] at a5
        exact zLe_one a5 (hL k rfl)
      rw [L7, L8]
      left
      exact ⟨_, _, 61 - (k + 1 + 1), rfl, if_neg (by rw [hv]; decide), by omega, next X hX hRo M hv⟩) 1000 61 (0, X0, L) (0, zup J 51 (56 + i) 0) ⟨0, X0, L, _, by omega, rfl, rfl, rfl, fun c hc => x3 c (by omega), fun k hk _ => x2.1 k hk, zup_same, zSd.up, fun k hk => absurd hk (by omega)⟩ (by omega)
  rw [e1, e2, zb_s, zg_k _ (show 56 + i < 120 by omega), zl_s]
  obtain ⟨j, X, M, hx, hu, hX, hY, hS⟩ := e3
  dsimp only at hu hY hS ⊢
  subst hu
  have row : ∀ k : Nat, k < 120 → zup u2 51 (56 + i) (J 51 (56 + i)) 51 k = J 51 k := by
    intro k _
    rw [zup_at]
    by_cases z : k = 56 + i
    · rw [if_pos ⟨rfl, z⟩, z]
    · rw [if_neg (fun y => z y.2), hY, zSk_o z]
  have R := side_rel h hX row (hS.tr zSd.up)
  rcases hx with ⟨hj, rfl⟩ | ⟨hj, rfl⟩
  · rw [zbs_l, if_neg (show ¬ (60 : Int32) < nI j from nI_nlt (b := j) (a := 60) (by omega) (by omega))]
    exact ⟨_, _, _, _, rfl, rfl, R⟩
  · subst hj
    rw [zbs_r, if_pos (show (60 : Int32) < nI 61 by decide)]
    obtain ⟨r, I', L', J', f1, f2, f3, f4, f5⟩ := fin_leafS (L := M) R.1 3
    exact ⟨r, I', L', J', f1, f2, f3, R.2.1.tr f4, R.2.2.tr f5⟩
