/-! judge, feed -/
theorem isStep8 {p q : Nat} {J : zI} (hF : zWF (J 51)) (hp : p < 40) (hq : q < 40) : fX8_isStep (nI p) (nI q) J = some (zp (zstp (J 51) p q)) := by
  obtain ⟨s, hs8, hs⟩ := hF.small
  obtain ⟨g, hg8, hg⟩ := hF.gate
  have zs1 : zn (J 51 8) = s := by rw [hs]; exact zn_k (by omega)
  have zg1 : zn (J 51 9) = g := by rw [hg]; exact zn_k (by omega)
  have g8 : ∀ {α : Type} (t : Option α), zg 8 120 t = t := fun t => zg_k (i := 8) t (by decide)
  have g9 : ∀ {α : Type} (t : Option α), zg 9 120 t = t := fun t => zg_k (i := 9) t (by decide)
  have n8 : zn 8 = 8 := rfl
  have n9 : zn 9 = 9 := rfl
  have c1 : (zbs (if nI (q / 8) = nI (p / 8) then zb (fX8_isOpen (nI (p % 8)) (nI (q % 8)) J) fun o12 => if o12 = 0 then some (.inr ()) else some (.inl 1) else some (.inr ())) fun x7 : Unit => some (0 : Int32)) = some (zp (q / 8 = p / 8 ∧ zop (J 51) (p % 8) (q % 8))) := by
    by_cases z : q / 8 = p / 8
    · rw [if_pos (show nI (q / 8) = nI (p / 8) by rw [z]), isOpen8 (J := J) (show p % 8 < 8 by omega), zb_s, zif]
      by_cases y : zop (J 51) (p % 8) (q % 8)
      · rw [zite_t (show zshr (J 51 (p % 8)) (nI (q % 8)) &&& 1 = 1 from y), zbs_l, zp_t ⟨z, y⟩]
      · rw [zite_f (show ¬ zshr (J 51 (p % 8)) (nI (q % 8)) &&& 1 = 1 from y), zbs_r, zp_f (fun x => y x.2)]
    · rw [if_neg (fun y => z ((nI_eq (by omega) (by omega)).mp y)), zbs_r, zp_f (fun x => z x.1)]
  have c2 : (zbs (if nI (p % 8) = nI s then if 4 ≤ nI (p / 8) then some (.inr ()) else zg 9 120 (if nI q = (8 * (nI (p / 8) + 1)) + nI g then some (.inl 1) else some (.inr ())) else some (.inr ())) fun x17 : Unit => some (0 : Int32)) = some (zp (p % 8 = s ∧ p / 8 < 4 ∧ q = 8 * (p / 8 + 1) + g)) := by
    by_cases z : p % 8 = s
    · rw [if_pos (show nI (p % 8) = nI s by rw [z])]
      by_cases z2 : p / 8 < 4
      · rw [if_neg (show ¬ 4 ≤ nI (p / 8) from zz_nle (b := 4) (by omega) z2), g9, nI_1, ix_2]
        by_cases y : q = 8 * (p / 8 + 1) + g
        · rw [if_pos (show nI q = nI (8 * (p / 8 + 1) + g) by rw [← y]), zbs_l, zp_t ⟨z, z2, y⟩]
        · rw [if_neg (fun x => y ((nI_eq (by omega) (by omega)).mp x)), zbs_r, zp_f (fun x => y x.2.2)]
      · rw [if_pos (show 4 ≤ nI (p / 8) by rw [show p / 8 = 4 by omega]; decide), zbs_r, zp_f (fun x => z2 x.2.1)]
    · rw [if_neg (fun y => z ((nI_eq (by omega) (by omega)).mp y)), zbs_r, zp_f (fun x => z x.1)]
  have c3 : (zbs (if nI (p % 8) = nI g then if nI (p / 8) ≤ 0 then some (.inr ()) else zg 8 120 (if nI q = (8 * (nI (p / 8) - 1)) + nI s then some (.inl 1) else some (.inr ())) else some (.inr ())) fun x25 : Unit => some (0 : Int32)) = some (zp (p % 8 = g ∧ 0 < p / 8 ∧ q = 8 * (p / 8 - 1) + s)) := by
    by_cases z : p % 8 = g
    · rw [if_pos (show nI (p % 8) = nI g by rw [z])]
      by_cases z2 : 0 < p / 8
      · rw [if_neg (nI_nle z2 (by omega)), g8, show nI (p / 8) - 1 = nI (p / 8 - 1) by
          obtain ⟨x, hx⟩ : ∃ x, p / 8 = x + 1 := ⟨p / 8 - 1, by omega⟩
          rw [hx, nI_pred]; rfl, ix_2]
        by_cases y : q = 8 * (p / 8 - 1) + s
        · rw [if_pos (show nI q = nI (8 * (p / 8 - 1) + s) by rw [← y]), zbs_l, zp_t ⟨z, z2, y⟩]
        · rw [if_neg (fun x => y ((nI_eq (by omega) (by omega)).mp x)), zbs_r, zp_f (fun x => y x.2.2)]
      · rw [if_pos (show nI (p / 8) ≤ 0 by rw [show p / 8 = 0 by omega]; decide), zbs_r, zp_f (fun x => z2 x.2.1)]
    · rw [if_neg (fun y => z ((nI_eq (by omega) (by omega)).mp y)), zbs_r, zp_f (fun x => z x.1)]
  unfold fX8_isStep
  rw [(pl_dr p hp).1, (pl_dr p hp).2, (pl_dr q hq).1, (pl_dr q hq).2, zl_s, zl_s, c1, zb_s, g8, n8, n9, hs, hg, c2, zb_s, g9, c3, zb_s, zif, zif, zif]
  unfold zstp
  rw [zs1, zg1]
  by_cases a : q / 8 = p / 8 ∧ zop (J 51) (p % 8) (q % 8)
  · rw [zite_t a, zp_t (Or.inl a)]
  · rw [zite_f a]
    by_cases b : p % 8 = s ∧ p / 8 < 4 ∧ q = 8 * (p / 8 + 1) + g
    · rw [zite_t b, zp_t (Or.inr (Or.inl b))]
    · rw [zite_f b]
      by_cases c : p % 8 = g ∧ 0 < p / 8 ∧ q = 8 * (p / 8 - 1) + s
      · rw [zite_t c, zp_t (Or.inr (Or.inr c))]
      · rw [zite_f c, zp_f (fun z => z.elim a (fun z => z.elim b c))]
theorem q_judge (a b : Int32) (I J : zI) (h : zRel I J) : ∃ r I' J', fX7_judge 1000 a b I = some (r, I') ∧ fX8_judge 1000 a b J = some (r, J') ∧ zRel I' J' ∧ zO7 I I' ∧ zO8 J J' := by
  obtain ⟨m, hm, e8, e7⟩ := h.folk
  unfold fX7_judge fX8_judge
  rw [sheet7, zb_s, zif]
  by_cases ha : ¬ zlt 4 a
  · rw [zite_f ha, lacks8n ha, zb_s, if_neg (by decide)]; exact fin_leaf h 0
  replace ha := Classical.not_not.mp ha
  rw [zite_t ha]
  obtain ⟨s, hs, rfl⟩ := ha
  obtain ⟨e0, e1, ec, ⟨l, hl, em⟩, eb⟩ := h.2.2.2.2 s hs
  rw [lacks8 hs, zb_s, zg_k _ hs, zn_k (show s < 2 ^ 31 by omega), miss2, zb_s, zif, e0]
  by_cases q : J 58 s = 0
  · rw [zite_t q, if_pos q, if_neg (by decide)]; exact fin_leaf h 5
  rw [zite_f q, if_neg q, if_pos (by decide), one7 b e7 hm, one8 b e8 hm, zb_s, zb_s, zif, zif]
  by_cases hb : ¬ zlt m b
  · rw [zite_f hb, zite_f hb]; exact fin_leaf h 0
  replace hb := Classical.not_not.mp hb
  rw [zite_t hb, zite_t hb]
  obtain ⟨i, hi, rfl⟩ := hb
  have hi4 : i < 4 := by omega
  obtain ⟨p0, hp0, ep⟩ := h.wf.place hi4
  rw [zg_k _ hi4, zn_k (show i < 2 ^ 31 by omega), show I 6 i = nI p0 from (h.1.place hi4).trans ep, zl_s]
  obtain ⟨r, u, f1, f2, f3⟩ := zit_rel (g := gX7_judge_64 1000 (nI s) I) (f := gX8_judge_33 (nI s) (nI i) J) (fun k x y => ∃ (j : Nat) (al : Int64) (F : Nat → Prop), j ≤ l ∧ k = l - j ∧ x = (al, nI j) ∧ y = nI j ∧ zSt al F ∧ ((j = 0 ∧ ∀ q : Nat, q < 40 → (F q ↔ q = p0)) ∨ ∃ p k : Nat, j = k + 1 ∧ p < 40 ∧ J 60 (40 * s + k) = nI p ∧ ∀ q : Nat, q < 40 → (F q ↔ zstp (J 51) p q))) (fun (r : (Int32 × zI) ⊕ Unit) (u : (Int32 × zI) ⊕ Unit) => (r = .inr () ∧ u = .inr ()) ∨ ∃ v : Int32, r = .inl (v, I) ∧ u = .inl (v, J)) (by
    rintro k x y ⟨j, al, F, hj, rfl, rfl, rfl, hal, hF⟩
    unfold gX7_judge_64 gX8_judge_33
    dsimp only
    have c1 : I (42 + 2 * s) 1 = nI l := e1.trans em
    simp only [zg_k _ hs, zn_k (show s < 2 ^ 31 by omega), c1, em]
    by_cases q : j = l
    · subst q
      right
      rw [if_pos (Int32.le_refl _), if_pos (Int32.le_refl _)]
      exact ⟨_, _, rfl, rfl, Or.inl ⟨rfl, rfl⟩⟩
    have hj2 : j < l := by omega
    have hj40 : j < 40 := by omega
    rw [if_neg (zz_nle (by omega) hj2), if_neg (zz_nle (by omega) hj2), show (40 : Int32) * nI s + nI j = nI (40 * s + j) by rw [show (40 : Int32) * nI s = nI (40 * s) from pk_mul 40 s, nI_add], zg_k _ hj40, zg_k _ (show 40 * s + j < 160 by omega), zn_k (show j < 2 ^ 31 by omega), zn_k (show 40 * s + j < 2 ^ 31 by omega), show I (42 + 2 * s + 1) j = J 60 (40 * s + j) from by
      rw [show 42 + 2 * s + 1 = 43 + 2 * s by omega]; exact ec j hj40]
    obtain ⟨v, hv⟩ : ∃ v, v = J 60 (40 * s + j) := ⟨_, rfl⟩
    rw [← hv, zl_s, zl_s, place7, place8, zb_s, zb_s, zif, zif]
    by_cases pv : ¬ zlt 40 v
    · right
      rw [zite_f pv, zite_f pv, zbs_r, zb_s, if_pos rfl]
      exact ⟨_, _, rfl, rfl, Or.inr ⟨_, rfl, rfl⟩⟩
    replace pv := Classical.not_not.mp pv
    rw [zite_t pv, zite_t pv]
    obtain ⟨q1, hq1, rfl⟩ := pv
    -- whether it may be come to, on both sides
    have law : ∃ P : Prop, (F q1 ↔ P) ∧ (zbs (if nI j = 0 then zg (52 + nI i) 120 (if nI q1 = J 51 (zn (52 + nI i)) then some (.inl 1) else some (.inr ())) else zg (nI (40 * s + j) - 1) 160 (zb (fX8_isStep (J 60 (zn (nI (40 * s + j) - 1))) (nI q1) J) fun o26 => if o26 = 0 then some (.inr ()) else some (.inl 1))) fun x21 : Unit => some (0 : Int32)) = some (zp P) := by
      rcases hF with ⟨hj0, hF⟩ | ⟨p, k, hk, hp, ek, hF⟩
      · subst hj0
        refine ⟨q1 = p0, hF q1 hq1, ?_⟩
        rw [if_pos (show nI 0 = 0 from rfl), show (52 : Int32) + nI i = nI (52 + i) from nI_add 52 i, zg_k _ (show 52 + i < 120 by omega), zn_k (show 52 + i < 2 ^ 31 by omega), ep]
        by_cases z : q1 = p0
        · rw [if_pos (show nI q1 = nI p0 by rw [z]), zbs_l, zp_t z]
        · rw [if_neg (fun y => z ((nI_eq (by omega) (by omega)).mp y)), zbs_r, zp_f z]
      · subst hk
        refine ⟨zstp (J 51) p q1, hF q1 hq1, ?_⟩
        rw [if_neg (nI_ne0 (by omega) (by omega)), show nI (40 * s + (k + 1)) - 1 = nI (40 * s + k) from nI_pred (40 * s + k), zg_k _ (show 40 * s + k < 160 by omega), zn_k (show 40 * s + k < 2 ^ 31 by omega), ek, isStep8 h.wf hp hq1, zb_s, zif]
        by_cases z : zstp (J 51) p q1
        · rw [zite_t z, zbs_l, zp_t z]
        · rw [zite_f z, zbs_r, zp_f z]
    obtain ⟨P, hP, el⟩ := law
    rw [el, zb_s, zif, nI_1]
    by_cases z : P
    · left
      rw [if_neg (show ¬ lg_cmp ((zushrL al (nI q1)) &&& 1) 0 = 0 from fun y => (zSt_b0 hal hq1).mp y (hP.mpr z)), zite_t z]
      obtain ⟨o, o1, o2⟩ := next6 h.1 (zSt_one hq1)
      rw [o1, zb_s, zl_s, zl_s]
      refine ⟨_, _, l - (j + 1), rfl, rfl, by omega, j + 1, o, _, by omega, rfl, rfl, rfl, o2, Or.inr ⟨q1, j, rfl, hq1, hv.symm, fun q hq => ?_⟩⟩
      constructor
      · rintro ⟨p, _, rfl, h2⟩; exact h2
      · intro h2; exact ⟨q1, hq1, rfl, h2⟩
    · right
      rw [if_pos ((zSt_b0 hal hq1).mpr (fun y => z (hP.mp y))), zite_f z]
      exact ⟨_, _, rfl, rfl, Or.inr ⟨_, rfl, rfl⟩⟩) 1000 l (zshlL 1 (nI p0), 0) 0 ⟨0, _, _, by omega, by omega, rfl, rfl, zSt_one hp0, Or.inl ⟨rfl, fun q _ => Iff.rfl⟩⟩ (by omega)
  rw [f1, f2]
  rcases f3 with ⟨rfl, rfl⟩ | ⟨v, rfl, rfl⟩
  · rw [zbs_r, zbs_r]; exact ⟨_, _, _, rfl, rfl, h, zO7.rf, zO8.rf⟩
  · rw [zbs_l, zbs_l]; exact ⟨_, _, _, rfl, rfl, h, zO7.rf, zO8.rf⟩
theorem low_byte {k : Nat} (hk : k < 4) (a : Int32) : zushr a (nI (8 * k)) &&& 255 = zshr a (nI (8 * k)) &&& 255 := by
  apply b_ext
  intro i hi
  rw [b_and, b_and, b_255]
  by_cases z : i < 8
  · rw [show bt (zushr a (nI (8 * k))) i = _ from b_ushr (8 * k) (by omega) a i, show bt (zshr a (nI (8 * k))) i = _ from b_sshr (8 * k) (by omega) a hi, if_pos (by omega)]
  · rw [decide_eq_false z, Bool.and_false, Bool.and_false]
theorem q_feed (a b : Int32) (I J : zI) (h : zRel I J) : ∃ r I' J', fX7_feed 1000 a b I = some (r, I') ∧ fX8_feed 1000 a b J = some (r, J') ∧ zRel I' J' ∧ zO7 I I' ∧ zO8 J J' := by
  obtain ⟨t1, ⟨l, hl, t2⟩, t3⟩ := h.2.2.1
  unfold fX7_feed fX8_feed
  rw [within7, within8I, zb_s, zb_s, zif, zif, show Int32.toInt 1 = 1 from rfl, show Int32.toInt 4 = 4 from rfl, show Int64.toInt 1 = 1 from rfl, show Int64.toInt 4 = 4 from rfl]
  by_cases hb : ¬ zbt 1 4 b
  · rw [zite_f hb, zite_f hb]; exact fin_leaf h 0
  replace hb := Classical.not_not.mp hb
  rw [zite_t hb, zite_t hb]
  obtain ⟨n, n1, n2, rfl⟩ := zbt_k (by omega) hb
  have e33 : I 33 1 + nI n = nI (l + n) := by rw [t1, t2, nI_add]
  have e50 : J 50 5 + nI n = nI (l + n) := by rw [t2, nI_add]
  by_cases q : ¬ l + n ≤ 120
  · rw [if_neg (show ¬ I 33 1 + nI n ≤ 120 by rw [e33]; exact zz_nle (a := 120) (by omega) (by omega)), if_neg (show ¬ J 50 5 + nI n ≤ 120 by rw [e50]; exact zz_nle (a := 120) (by omega) (by omega))]
    exact fin_leaf h 1
  replace q := Classical.not_not.mp q
  rw [if_pos (show I 33 1 + nI n ≤ 120 by rw [e33]; exact nI_le (b := 120) q (by omega)), if_pos (show J 50 5 + nI n ≤ 120 by rw [e50]; exact nI_le (b := 120) q (by omega))]
  unfold fX3_append
  rw [zl_s, zl_s, show (8 : Int32) * nI n = nI (8 * n) from pk_mul 8 n]
  obtain ⟨X, Y, e1, e2, e3, e4, e5⟩ := zit_rel (g := gX3_append_4 a) (f := gX8_feed_43 a) (fun k x y => ∃ (j c : Nat) (X Y : zI), j ≤ n ∧ k = j ∧ x = (nI j - 1, X) ∧ y = (nI (8 * j) - 8, Y) ∧ zRel X Y ∧ Y 50 5 = nI c ∧ c + j ≤ 120 ∧ zO7 I X ∧ zO8 J Y) (fun X Y => zRel X Y ∧ zO7 I X ∧ zO8 J Y) (by
    rintro k x y ⟨j, c, X, Y, hj, rfl, rfl, rfl, hR, hc, hcj, o7, o8⟩
    obtain ⟨s1, s2, s3⟩ := hR.2.2.1
    unfold gX3_append_4 gX8_feed_43
    dsimp only
    by_cases z : k = 0
    · subst z
      right
      rw [if_pos (show nI 0 - 1 < 0 by decide), if_pos (show nI (8 * 0) - 8 < 0 by decide)]
      exact ⟨_, _, rfl, rfl, hR, o7, o8⟩
    left
    obtain ⟨i, rfl⟩ : ∃ i, k = i + 1 := ⟨k - 1, by omega⟩
    have hi4 : i < 4 := by omega
    have hc2 : c < 120 := by omega
    rw [nI_pred, show nI (8 * (i + 1)) - 8 = nI (8 * i) from pk_sub (a := 8 * (i + 1)) (b := 8) (by omega), if_neg (nI_pos (by omega)), if_neg (nI_pos (by omega)), show (8 : Int32) * nI i = nI (8 * i) from pk_mul 8 i]
    simp only [s1, hc]
    rw [if_neg (show ¬ (120 : Int32) ≤ nI c from zz_nle (b := 120) (by omega) hc2), zg_k _ hc2, zg_k _ hc2, zn_k (show c < 2 ^ 31 by omega), low_byte hi4]
    simp only [zl_s]
    generalize zshr a (nI (8 * i)) &&& 255 = v
    rw [show zup X 34 c v 33 1 = nI c from (zup_r (by omega)).trans (s1.trans hc), show zup Y 54 c v 50 5 = nI c from (zup_r (by omega)).trans hc, nI_1]
    refine ⟨_, _, i, rfl, rfl, by omega, i, c + 1, _, _, by omega, rfl, by rw [Int32.sub_eq_add_neg], by rw [Int32.sub_eq_add_neg], zRel_tape hR ⟨by rw [zup_s, zup_s], by rw [zup_s]; exact ⟨c + 1, by omega, rfl⟩, fun x hx => ?_⟩ (fun x hx => by rw [zup_ne (by omega), zup_ne (by omega)]) (fun x s h1 h2 => by rw [zup_r h2, zup_r (by omega)]), zup_s, by omega, o7.tr ((zO7.up (by omega)).tr (zO7.up (by omega))), o8.tr ((zO8.up (by omega)).tr (zO8.up (by omega)))⟩
    rw [zup_ne (by omega), zup_ne (j := 54) (by omega), zup_at, zup_at]
    by_cases w : x = c
    · rw [if_pos ⟨rfl, w⟩, if_pos ⟨rfl, w⟩]
    · rw [if_neg (fun y => w y.2), if_neg (fun y => w y.2)]; exact s3 x hx) 1000 n (nI n - 1, I) (nI (8 * n) - 8, J) ⟨n, l, I, J, by omega, rfl, rfl, rfl, h, t2, q, zO7.rf, zO8.rf⟩ (by omega)
  rw [e1, e2, zb_s, zb_s, zb_s]
  exact ⟨_, _, _, rfl, by rw [e3.2.2.1.1], e3, e4, e5⟩
