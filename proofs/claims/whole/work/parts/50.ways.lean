/-! ways, far -/
def zEz (S : Nat → Int32) : Nat → Nat → Prop := zE S (fun _ => False) (fun _ => False)
theorem zEz_iff {S : Nat → Int32} {p q : Nat} (hp : p < 40) (hq : q < 40) : zEz S (8 * p) (8 * q) ↔ zstp S p q := by
  unfold zEz zE
  rw [show 8 * p / 8 = p by omega, show 8 * q / 8 = q by omega]
  constructor
  · rintro ⟨_, _, (h | h | h)⟩
    · exact h.1
    · exact h.1.elim
    · exact h.1.elim
  · intro h
    exact ⟨by omega, by omega, Or.inl ⟨h, by omega⟩⟩
theorem zEz_0 {S : Nat → Int32} {x y : Nat} (h : zEz S x y) : y < 320 ∧ y % 8 = x % 8 := by
  obtain ⟨_, h2, (h | h | h)⟩ := h
  · exact ⟨h2, h.2⟩
  · exact h.1.elim
  · exact h.1.elim
theorem zEz_8 {S : Nat → Int32} {p k x : Nat} (hp : p < 40) (h : zRe (zEz S) (8 * p) k x) : x < 320 ∧ x % 8 = 0 := by
  induction k generalizing x with
  | zero =>
    have e : x = 8 * p := h
    omega
  | succ k ih =>
    rcases h with h | ⟨y, hy, he⟩
    · exact ih h
    · have h1 := ih hy
      have h2 := zEz_0 he
      omega
theorem way_step {w p i : Nat} {I J : zI} {all fresh : Int64} (h : zRw w I J) (hp : p < 40) (ha : zSt all (fun q => zBk (zEz (J 51)) (8 * p) (i + 1) (8 * q))) (hf : zSt fresh (fun q => zNw (zEz (J 51)) (8 * p) i (8 * q))) : ∃ o, fX6_nextPlaces 1000 w fresh I = some o ∧ zSt (o &&& (all ^^^ (-1))) (fun q => zNw (zEz (J 51)) (8 * p) (i + 1) (8 * q)) ∧ zSt (all ||| (o &&& (all ^^^ (-1)))) (fun q => zBk (zEz (J 51)) (8 * p) (i + 1 + 1) (8 * q)) := by
  obtain ⟨o, o1, o2⟩ := next6 h hf
  have hn : zSt (o &&& (all ^^^ (-1))) (fun q => zNw (zEz (J 51)) (8 * p) (i + 1) (8 * q)) := by
    refine zSt_congr (zSt_diff o2 ha) fun q hq => ?_
    constructor
    · rintro ⟨⟨y, hy, h1, h2⟩, h3⟩
      exact ⟨Or.inr ⟨8 * y, h1.1, (zEz_iff hy hq).mpr h2⟩, h3⟩
    · rintro ⟨h1, h2⟩
      refine ⟨?_, h2⟩
      rcases h1 with h1 | ⟨y, hy, he⟩
      · exact absurd ⟨i, by omega, h1⟩ h2
      · have hz := zEz_8 hp hy
        obtain ⟨z, rfl⟩ : ∃ z, y = 8 * z := ⟨y / 8, by omega⟩
        refine ⟨z, by omega, ⟨hy, fun ⟨j, hj, hb⟩ => h2 ⟨j + 1, by omega, Or.inr ⟨8 * z, hb, he⟩⟩⟩, (zEz_iff (by omega) hq).mp he⟩
  exact ⟨o, o1, hn, zSt_congr (zSt_or ha hn) fun q hq => zBk_s.symm⟩
theorem way_first {S : Nat → Int32} {p : Nat} (hp : p < 40) : zSt (zshlL 1 (nI p)) (fun q => zBk (zEz S) (8 * p) (0 + 1) (8 * q)) ∧ zSt (zshlL 1 (nI p)) (fun q => zNw (zEz S) (8 * p) 0 (8 * q)) := by
  refine ⟨zSt_congr (zSt_one hp) fun q hq => ?_, zSt_congr (zSt_one hp) fun q hq => ?_⟩
  · constructor
    · rintro rfl
      exact ⟨0, by omega, rfl⟩
    · rintro ⟨j, hj, h⟩
      have e : j = 0 := by omega
      subst e
      have h2 : 8 * q = 8 * p := h
      omega
  · constructor
    · rintro rfl
      exact ⟨rfl, fun ⟨j, hj, _⟩ => absurd hj (by omega)⟩
    · rintro ⟨h, _⟩
      have h2 : 8 * q = 8 * p := h
      omega
theorem way_more {S : Nat → Int32} {p i : Nat} (h : i ≤ fb_ct (fun q => zbk (zEz S) (8 * p) i (8 * q)) 40) {q : Nat} (hq : q < 40) (hn : zNw (zEz S) (8 * p) i (8 * q)) : i + 1 ≤ fb_ct (fun q => zbk (zEz S) (8 * p) (i + 1) (8 * q)) 40 := by
  have := ct_more (p := fun q => zbk (zEz S) (8 * p) i (8 * q)) (q := fun q => zbk (zEz S) (8 * p) (i + 1) (8 * q)) (n := 40) (x := q) (fun x _ hx => zbk_t.mpr (zBk_s.mpr (Or.inl (zbk_t.mp hx)))) hq (by
    show zbk (zEz S) (8 * p) i (8 * q) = false
    cases e : zbk (zEz S) (8 * p) i (8 * q)
    · rfl
    · exact absurd (zbk_t.mp e) hn.2) (zbk_t.mpr (zBk_s.mpr (Or.inr hn)))
  omega
theorem way_all {S : Nat → Int32} {p : Nat} (h : 40 ≤ fb_ct (fun q => zbk (zEz S) (8 * p) 40 (8 * q)) 40) {q : Nat} (hq : q < 40) : zBk (zEz S) (8 * p) 40 (8 * q) := by
  have hle := fb_ct_le (fun q => zbk (zEz S) (8 * p) 40 (8 * q)) 40
  exact zbk_t.mp ((fb_ct_all (p := fun q => zbk (zEz S) (8 * p) 40 (8 * q)) (n := 40)).mp (by omega) q hq)
theorem way_still {S : Nat → Int32} {p i : Nat} (hp : p < 40) (h : ∀ q : Nat, q < 40 → ¬ zNw (zEz S) (8 * p) i (8 * q)) : ∀ j x : Nat, zRe (zEz S) (8 * p) j x → zBk (zEz S) (8 * p) i x := by
  have nz : ∀ x : Nat, zRe (zEz S) (8 * p) i x → zBk (zEz S) (8 * p) i x := by
    intro x hx
    refine Classical.byContradiction fun b => ?_
    have hz := zEz_8 hp hx
    obtain ⟨z, rfl⟩ : ∃ z, x = 8 * z := ⟨x / 8, by omega⟩
    exact h z (by omega) ⟨hx, b⟩
  intro j
  induction j with
  | zero => exact fun x hx => nz x (zRe_mono hx (Nat.zero_le _))
  | succ j ih =>
    rintro x (hx | ⟨y, hy, he⟩)
    · exact ih x hx
    · obtain ⟨k, hk, hb⟩ := ih y hy
      exact nz x (zRe_mono (k := k + 1) (Or.inr ⟨y, hb, he⟩) (by omega))
theorem places7 {w p : Nat} {I J : zI} (h : zRw w I J) (hp : p < 40) : ∃ v, fX1_placesFrom 1000 w (nI p) I = some v ∧ zSt v (fun q => ∃ j : Nat, zRe (zEz (J 51)) (8 * p) j (8 * q)) := by
  obtain ⟨f1, f2⟩ := way_first (S := J 51) hp
  obtain ⟨v, e1, e2⟩ := zit_one (g := gX1_placesFrom_10 1000 w I) (fun m y => ∃ (i : Nat) (a f : Int64), i ≤ 40 ∧ m = 40 - i ∧ y = (a, f, nI i) ∧ zSt a (fun q => zBk (zEz (J 51)) (8 * p) (i + 1) (8 * q)) ∧ zSt f (fun q => zNw (zEz (J 51)) (8 * p) i (8 * q)) ∧ i ≤ fb_ct (fun q => zbk (zEz (J 51)) (8 * p) i (8 * q)) 40) (fun v : Int64 => zSt v (fun q => ∃ j : Nat, zRe (zEz (J 51)) (8 * p) j (8 * q))) (by
    rintro m y ⟨i, a, f, hi, rfl, rfl, ha, hf, hc⟩
    unfold gX1_placesFrom_10
    dsimp only
    by_cases q : i = 40
    · subst q
      right
      rw [if_pos (show (40 : Int32) ≤ nI 40 from Int32.le_refl _)]
      refine ⟨a, rfl, zSt_congr ha fun q hq => ⟨fun ⟨j, _, z⟩ => ⟨j, z⟩, fun _ => ?_⟩⟩
      obtain ⟨j, hj, z⟩ := way_all hc hq
      exact ⟨j, by omega, z⟩
    have hi2 : i < 40 := by omega
    rw [if_neg (show ¬ (40 : Int32) ≤ nI i from zz_nle (b := 40) (by omega) hi2)]
    by_cases z : lg_cmp f 0 = 0
    · right
      rw [if_pos z]
      have z2 := (zSt_is0 hf).mp z
      refine ⟨a, rfl, zSt_congr ha fun q hq => ⟨fun ⟨j, _, z⟩ => ⟨j, z⟩, fun ⟨j, z⟩ => ?_⟩⟩
      obtain ⟨k, hk, y⟩ := way_still hp z2 j _ z
      exact ⟨k, by omega, y⟩
    · left
      obtain ⟨o, o1, o2, o3⟩ := way_step h hp ha hf
      rw [if_neg z, o1, zb_s, zl_s, zl_s, zl_s, nI_1]
      obtain ⟨q, hq, hn⟩ : ∃ q : Nat, q < 40 ∧ zNw (zEz (J 51)) (8 * p) i (8 * q) := by
        refine Classical.byContradiction fun y => z ((zSt_is0 hf).mpr fun q hq x => y ⟨q, hq, x⟩)
      exact ⟨_, 40 - (i + 1), rfl, by omega, i + 1, _, _, by omega, rfl, rfl, o3, o2, way_more hc hq hn⟩) 1000 40 (zshlL 1 (nI p), zshlL 1 (nI p), 0) ⟨0, _, _, by omega, rfl, rfl, f1, f2, Nat.zero_le _⟩ (by omega)
  unfold fX1_placesFrom
  rw [zl_s, e1, zb_s]
  exact ⟨v, rfl, e2⟩
theorem stepsTo7 {w p g : Nat} {I J : zI} (h : zRw w I J) (hp : p < 40) (hg : g < 40) : ∃ v, fX1_stepsTo 1000 w (nI p) (nI g) I = some v ∧ zDi (zEz (J 51)) (8 * p) (8 * g) v := by
  obtain ⟨f1, f2⟩ := way_first (S := J 51) hp
  obtain ⟨v, e1, e2⟩ := zit_one (g := gX1_stepsTo_12 1000 w (nI g) I) (fun m y => ∃ (i : Nat) (a f : Int64), i ≤ 40 ∧ m = 40 - i ∧ y = (a, f, nI i) ∧ zSt a (fun q => zBk (zEz (J 51)) (8 * p) (i + 1) (8 * q)) ∧ zSt f (fun q => zNw (zEz (J 51)) (8 * p) i (8 * q)) ∧ i ≤ fb_ct (fun q => zbk (zEz (J 51)) (8 * p) i (8 * q)) 40 ∧ ¬ zBk (zEz (J 51)) (8 * p) i (8 * g)) (fun v : Int32 ⊕ Unit => (∃ i : Nat, i < 40 ∧ v = .inl (nI i) ∧ zNw (zEz (J 51)) (8 * p) i (8 * g)) ∨ (v = .inr () ∧ ∀ k : Nat, ¬ zRe (zEz (J 51)) (8 * p) k (8 * g))) (by
    rintro m y ⟨i, a, f, hi, rfl, rfl, ha, hf, hc, hb⟩
    unfold gX1_stepsTo_12
    dsimp only
    by_cases q : i = 40
    · subst q
      exact absurd (way_all hc hg) hb
    have hi2 : i < 40 := by omega
    rw [if_neg (show ¬ (40 : Int32) ≤ nI i from zz_nle (b := 40) (by omega) hi2)]
    by_cases z : lg_cmp f 0 = 0
    · right
      rw [if_pos z]
      have z2 := (zSt_is0 hf).mp z
      exact ⟨_, rfl, Or.inr ⟨rfl, fun k hk => hb (way_still hp z2 k _ hk)⟩⟩
    rw [if_neg z]
    by_cases y : zNw (zEz (J 51)) (8 * p) i (8 * g)
    · right
      rw [if_pos ((zSt_b1 hf hg).mpr y)]
      exact ⟨_, rfl, Or.inl ⟨i, hi2, rfl, y⟩⟩
    · left
      obtain ⟨o, o1, o2, o3⟩ := way_step h hp ha hf
      rw [if_neg (fun x => y ((zSt_b1 hf hg).mp x)), o1, zb_s, zl_s, zl_s, zl_s, nI_1]
      obtain ⟨q, hq, hn⟩ : ∃ q : Nat, q < 40 ∧ zNw (zEz (J 51)) (8 * p) i (8 * q) := by
        refine Classical.byContradiction fun y => z ((zSt_is0 hf).mpr fun q hq x => y ⟨q, hq, x⟩)
      exact ⟨_, 40 - (i + 1), rfl, by omega, i + 1, _, _, by omega, rfl, rfl, o3, o2, way_more hc hq hn, fun x => (zBk_s.mp x).elim hb y⟩) 1000 40 (zshlL 1 (nI p), zshlL 1 (nI p), 0) ⟨0, _, _, by omega, rfl, rfl, f1, f2, Nat.zero_le _, fun ⟨j, hj, _⟩ => absurd hj (by omega)⟩ (by omega)
  unfold fX1_stepsTo
  rw [zl_s, e1]
  rcases e2 with ⟨i, hi, rfl, hn⟩ | ⟨rfl, hn⟩
  · rw [zbs_l]
    exact ⟨_, rfl, Or.inr ⟨i, by omega, rfl, hn.1, fun j hj z => hn.2 ⟨j, hj, z⟩⟩⟩
  · rw [zbs_r]
    exact ⟨_, rfl, Or.inl ⟨rfl, hn⟩⟩
theorem zDi_one {E : Nat → Nat → Prop} {s x : Nat} {v v' : Int32} (h : zDi E s x v) (h' : zDi E s x v') : v = v' := by
  rcases h with ⟨rfl, a⟩ | ⟨k, hk, rfl, a, b⟩
  · rcases h' with ⟨rfl, _⟩ | ⟨k', _, rfl, a', _⟩
    · rfl
    · exact absurd a' (a k')
  · rcases h' with ⟨rfl, a'⟩ | ⟨k', _, rfl, a', b'⟩
    · exact absurd a (a' k)
    · rcases Nat.lt_trichotomy k k' with z | z | z
      · exact absurd a (b' k z)
      · rw [z]
      · exact absurd a' (b k' z)
theorem zSt_eq {a b : Int64} {f : Nat → Prop} (h : zSt a f) (g : zSt b f) : a = b := by
  obtain ⟨n, _, rfl, h⟩ := h
  obtain ⟨m, _, rfl, g⟩ := g
  congr 1
  apply Nat.eq_of_testBit_eq
  intro i
  have e1 := h i
  have e2 := g i
  cases x : n.testBit i
  · cases y : m.testBit i
    · rfl
    · exact absurd (e1.mpr (e2.mp y)) (by rw [x]; decide)
  · exact (e2.mpr (e1.mp x)).symm
theorem walks_way {i p : Nat} {J : zI} (hF : zWF (J 51)) (hi : i < 4) (hp : p < 40) (ep : J 51 (52 + i) = nI p) : ∃ J' : zI, fX8_walksAll 1000 (nI i) (-1) 0 J = some J' ∧ (∀ x : Nat, x < 320 → zDi (zEz (J 51)) (8 * p) x (J' 56 x)) ∧ zFr J J' :=
  walksAll8 (a2 := -1) (a3 := 0) (r := 0) (C := fun _ => False) (R := fun _ => False) hF (Or.inl ⟨rfl, fun _ => ⟨id, id⟩⟩) hi hp (by omega) ep (Or.inl ⟨rfl, rfl⟩)
theorem q_ways (a : Int32) (I J : zI) (h : zRel I J) : ∃ r I' J', fX7_ways 1000 a I = some (r, I') ∧ fX8_ways 1000 a J = some (r, J') ∧ zRel I' J' ∧ zO7 I I' ∧ zO8 J J' := by
  obtain ⟨m, hm, e8, e7⟩ := h.folk
  unfold fX7_ways fX8_ways
  rw [one7 a e7 hm, one8 a e8 hm, zb_s, zb_s, zif, zif]
  by_cases ha : ¬ zlt m a
  · rw [zite_f ha, zite_f ha]; exact fin_leafL h 0
  replace ha := Classical.not_not.mp ha
  rw [zite_t ha, zite_t ha]
  obtain ⟨i, hi, rfl⟩ := ha
  have hi4 : i < 4 := by omega
  obtain ⟨p, hp, ep⟩ := h.wf.place hi4
  obtain ⟨v, v1, v2⟩ := places7 h.1 hp
  obtain ⟨J', j1, j2, j3⟩ := walks_way h.wf hi4 hp ep
  rw [zg_k _ hi4, zn_k (show i < 2 ^ 31 by omega), show I 6 i = nI p from (h.1.place hi4).trans ep, v1, j1, zb_s, zb_s]
  obtain ⟨u, u1, u2⟩ := zit_one (g := gX8_ways_27 J') (fun m y => ∃ (j : Nat) (b : Int64), j ≤ 40 ∧ m = 40 - j ∧ y = (b, nI j) ∧ zSt b (fun q => q < j ∧ ∃ k : Nat, zRe (zEz (J 51)) (8 * p) k (8 * q))) (fun b : Int64 => zSt b (fun q => ∃ k : Nat, zRe (zEz (J 51)) (8 * p) k (8 * q))) (by
    rintro m y ⟨j, b, hj, rfl, rfl, hb⟩
    unfold gX8_ways_27
    dsimp only
    by_cases q : j = 40
    · subst q
      right
      rw [if_pos (show (40 : Int32) ≤ nI 40 from Int32.le_refl _)]
      exact ⟨b, rfl, zSt_congr hb fun q hq => ⟨fun z => z.2, fun z => ⟨hq, z⟩⟩⟩
    left
    have hj2 : j < 40 := by omega
    rw [if_neg (show ¬ (40 : Int32) ≤ nI j from zz_nle (b := 40) (by omega) hj2), show (8 : Int32) * nI j = nI (8 * j) from pk_mul 8 j, zg_k _ (show 8 * j < 320 by omega), zn_k (show 8 * j < 2 ^ 31 by omega), nI_1]
    rcases j2 (8 * j) (by omega) with ⟨e, z⟩ | ⟨k, hk, e, z, _⟩
    · rw [e, if_neg (by decide), zl_s, zl_s]
      refine ⟨_, 40 - (j + 1), rfl, by omega, j + 1, _, by omega, rfl, rfl, zSt_congr (zSt_or hb zSt_zero) fun q hq => ?_⟩
      constructor
      · rintro (⟨y1, y2⟩ | y)
        · exact ⟨by omega, y2⟩
        · exact y.elim
      · rintro ⟨y1, k, y2⟩
        by_cases x : q = j
        · subst x; exact absurd y2 (z k)
        · exact Or.inl ⟨by omega, k, y2⟩
    · rw [e, if_pos (nI_pos' (by omega)), zl_s, zl_s]
      refine ⟨_, 40 - (j + 1), rfl, by omega, j + 1, _, by omega, rfl, rfl, zSt_congr (zSt_or hb (zSt_one hj2)) fun q hq => ?_⟩
      constructor
      · rintro (⟨y1, y2⟩ | y)
        · exact ⟨by omega, y2⟩
        · subst y; exact ⟨by omega, k, z⟩
      · rintro ⟨y1, y2⟩
        by_cases x : q = j
        · exact Or.inr x
        · exact Or.inl ⟨by omega, y2⟩) 1000 40 (0, 0) ⟨0, 0, by omega, rfl, rfl, zSt_congr zSt_zero fun q hq => ⟨fun z => z.elim, fun z => absurd z.1 (by omega)⟩⟩ (by omega)
  rw [u1, zb_s, zSt_eq v2 u2]
  exact ⟨_, _, _, rfl, rfl, side_rel h (fun _ _ => rfl) (fun k _ => by rw [j3.row]) j3.sd⟩
/-- an answer, or that there is none -/
theorem none_leaf {I J I1 J1 : zI} {v : Int32} (hv : v = (-1) ∨ ∃ k : Nat, k < 2 ^ 31 ∧ v = nI k) (h : zRel I1 J1 ∧ zO7 I I1 ∧ zO8 J J1) : ∃ (r : Int32) (I' J' : zI), (zb (fX7_foundOrNone v I1) fun o => some (o.1, o.2)) = some (r, I') ∧ (zb (fX8_orNone v J1) fun o => some (o.1, o.2)) = some (r, J') ∧ zRel I' J' ∧ zO7 I I' ∧ zO8 J J' := by
  obtain ⟨h1, h2, h3⟩ := h
  unfold fX7_foundOrNone fX8_orNone
  rcases hv with rfl | ⟨k, hk, rfl⟩
  · rw [if_pos rfl, if_neg (by decide)]
    rw [show fX7_finding (-1000004) I1 = _ from find7 (k := 3) (by decide) I1, show fX8_finding 3 J1 = _ from find8 (k := 3) (by decide) J1]
    exact ⟨_, _, _, rfl, rfl, zRel_find h1 (by decide), h2.tr (zO7.up (by omega)), h3.tr (zO8.up (by omega))⟩
  · rw [if_neg (nI_nm1 hk), if_pos (nI_pos' hk)]
    exact ⟨_, _, _, rfl, rfl, h1, h2, h3⟩
theorem q_far (a b : Int32) (I J : zI) (h : zRel I J) : ∃ r I' J', fX7_far 1000 a b I = some (r, I') ∧ fX8_far 1000 a b J = some (r, J') ∧ zRel I' J' ∧ zO7 I I' ∧ zO8 J J' := by
  obtain ⟨m, hm, e8, e7⟩ := h.folk
  unfold fX7_far fX8_far
  rw [one7 a e7 hm, one8 a e8 hm, place7, place8, zb_s, zb_s, zb_s, zb_s, zif, zif, zif, zif]
  by_cases ha : ¬ zlt m a
  · rw [zite_f ha, zite_f ha]; exact fin_leaf h 0
  replace ha := Classical.not_not.mp ha
  rw [zite_t ha, zite_t ha]
  by_cases hb : ¬ zlt 40 b
  · rw [zite_f hb, zite_f hb]; exact fin_leaf h 0
  replace hb := Classical.not_not.mp hb
  rw [zite_t hb, zite_t hb]
  obtain ⟨i, hi, rfl⟩ := ha
  obtain ⟨g, hg, rfl⟩ := hb
  have hi4 : i < 4 := by omega
  obtain ⟨p, hp, ep⟩ := h.wf.place hi4
  obtain ⟨v, v1, v2⟩ := stepsTo7 h.1 hp hg
  obtain ⟨J', j1, j2, j3⟩ := walks_way h.wf hi4 hp ep
  rw [zg_k _ hi4, zn_k (show i < 2 ^ 31 by omega), show I 6 i = nI p from (h.1.place hi4).trans ep, v1, j1, zb_s, zb_s, show (8 : Int32) * nI g = nI (8 * g) from pk_mul 8 g, zg_k _ (show 8 * g < 320 by omega), zn_k (show 8 * g < 2 ^ 31 by omega), ← zDi_one v2 (j2 (8 * g) (by omega))]
  refine none_leaf ?_ (side_rel h (fun _ _ => rfl) (fun k _ => by rw [j3.row]) j3.sd)
  rcases v2 with ⟨e, _⟩ | ⟨k, hk, e, _⟩
  · exact Or.inl e
  · exact Or.inr ⟨k, by omega, e⟩
