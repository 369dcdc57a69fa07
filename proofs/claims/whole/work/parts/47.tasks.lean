/-! tasks: task, can, above, who -/
/-- beside the row nothing that the rest looks at has changed -/
def zSd (J J' : zI) : Prop := (∀ c s : Nat, zcY c s → J' c s = J c s) ∧ (∀ c : Nat, c < 50 → J' c = J c)
theorem zSd.rf {J : zI} : zSd J J := ⟨fun _ _ _ => rfl, fun _ _ => rfl⟩
theorem zSd.tr {J J1 J2 : zI} (h : zSd J J1) (g : zSd J1 J2) : zSd J J2 := ⟨fun c s hc => (g.1 c s hc).trans (h.1 c s hc), fun c hc => (g.2 c hc).trans (h.2 c hc)⟩
theorem zFr.sd {J J' : zI} (h : zFr J J') : zSd J J' := ⟨fun c s hc => h c s (by unfold zcY at hc; omega) (by unfold zcY at hc; omega) (by unfold zcY at hc; omega), fun c hc => funext fun s => h c s (by omega) (by omega) (by omega)⟩
theorem zFr.row {J J' : zI} (h : zFr J J') : J' 51 = J 51 := funext fun s => h 51 s (by omega) (by omega) (by omega)
theorem zSd.up {J : zI} {s : Nat} {v : Int32} : zSd J (zup J 51 s v) := ⟨fun c s hc => zup_r (by unfold zcY at hc; omega), fun c hc => zup_ne (by omega)⟩
theorem zSd.up50 {J : zI} {s : Nat} {v : Int32} (h : s = 11 ∨ s = 12) : zSd J (zup J 50 s v) := ⟨fun c s hc => zup_r (by unfold zcY at hc; omega), fun c hc => zup_ne (by omega)⟩
theorem side_rel {I J I' J' : zI} (h : zRel I J) (hI : ∀ c : Nat, ¬ (19 ≤ c ∧ c ≤ 32) → I' c = I c) (hr : ∀ k : Nat, k < 120 → J' 51 k = J 51 k) (hJ : zSd J J') : zRel I' J' ∧ zO7 I I' ∧ zO8 J J' :=
  ⟨zRel_side h (fun c s hc => by rw [hI c (by omega)]) hr hJ.1, fun c hc => hI c (by omega), fun c hc => hJ.2 c hc⟩
theorem few_both {w i t r p0 r0 : Nat} {I J : zI} {L : zL} (hw8 : w + 8 < 32) (h : zRw w I J) (hi : i < 4) (ht : t < 8) (hr : r < 8) (hp : p0 < 40) (hr0 : r0 < 8) (ep : J 51 (52 + i) = nI p0) (er : J 51 (36 + t) = nI r0) : ∃ (v : Int32) (I' : zI) (L' : zL) (J' : zI), fX1_fewestFor 1000 w (nI i) (nI t) (nI r) I L = some (v, I', L') ∧ fX8_stepsOf 1000 (nI i) (nI t) (nI r) J = some (v, J') ∧ (∀ c : Nat, c ≠ 32 → I' c = I c) ∧ zFr J J' ∧ zLe (zE (J 51) (zlg (J 51) i t) (fun l => zlg (J 51) i t (l + 1))) (8 * p0 + r0) r v := by
  obtain ⟨I', L', a1, a2, a3⟩ := explore7 (a := 1) (g := nI r) (L := L) (C := zlg (J 51) i t) (R := fun l => zlg (J 51) i t (l + 1)) hw8 h hi ht hp hr0 ep er (fun _ => Iff.rfl) (fun l => ⟨fun z => ⟨by decide, z⟩, fun z => z.2⟩) (Or.inr ⟨r, hr, rfl⟩)
  obtain ⟨J', b1, b2, b3⟩ := walksAll8 (a2 := nI t) (a3 := 1) (C := zlg (J 51) i t) (R := fun l => zlg (J 51) i t (l + 1)) h.2 (Or.inr ⟨t, ht, rfl, fun l => ⟨Iff.rfl, fun z => ⟨by decide, z⟩, fun z => z.2⟩⟩) hi hp hr0 ep (Or.inr ⟨t, ht, rfl, er⟩)
  obtain ⟨v, c1, c2⟩ := leastFor8 hr b2
  have e := zLe_one (a3 r hr (Or.inr rfl)) c2
  refine ⟨v, I', L', J', ?_, ?_, a2, b3, c2⟩
  · unfold fX1_fewestFor
    rw [a1, zb_s, zg_k _ hr, zn_k (show r < 2 ^ 31 by omega)]
    dsimp only
    rw [e]
  · unfold fX8_stepsOf
    rw [b1, zb_s, c1, zb_s]
theorem zLe_val {E : Nat → Nat → Prop} {s r : Nat} {v : Int32} (h : zLe E s r v) : v = (-1) ∨ ∃ k : Nat, k < 320 ∧ v = nI k := by
  rcases h with ⟨e, _⟩ | ⟨k, hk, e, _⟩
  · exact Or.inl e
  · exact Or.inr ⟨k, hk, e⟩
theorem isTask7 {a b c : Int32} {I : zI} {m n : Nat} (h : I 1 8 = nI m) (hm : m < 5) (h2 : I 1 4 = nI n) (hn : n < 9) : fX7_isTask a b c I = some (zp (zlt m a ∧ zlt n b ∧ zlt 8 c)) := by
  unfold fX7_isTask
  rw [one7 a h hm, zb_s, thing7 b h2 hn, zb_s, room7, zb_s, zif, zif, zif]
  by_cases q1 : zlt m a
  · rw [zite_t q1]
    by_cases q2 : zlt n b
    · rw [zite_t q2]
      by_cases q3 : zlt 8 c
      · rw [zite_t q3, zp_t ⟨q1, q2, q3⟩]
      · rw [zite_f q3, zp_f (fun z => q3 z.2.2)]
    · rw [zite_f q2, zp_f (fun z => q2 z.2.1)]
  · rw [zite_f q1, zp_f (fun z => q1 z.1)]
theorem isTask8 {a b c : Int32} {J : zI} {m n : Nat} (h : J 51 12 = nI m) (hm : m < 5) (h2 : J 51 11 = nI n) (hn : n < 9) : fX8_isTask a b c J = some (zp (zlt m a ∧ zlt n b ∧ zlt 8 c)) := by
  unfold fX8_isTask
  rw [one8 a h hm, zb_s, thing8 b h2 hn, zb_s, room8, zb_s, zif, zif, zif]
  by_cases q1 : zlt m a
  · rw [zite_t q1]
    by_cases q2 : zlt n b
    · rw [zite_t q2]
      by_cases q3 : zlt 8 c
      · rw [zite_t q3, zp_t ⟨q1, q2, q3⟩]
      · rw [zite_f q3, zp_f (fun z => q3 z.2.2)]
    · rw [zite_f q2, zp_f (fun z => q2 z.2.1)]
  · rw [zite_f q1, zp_f (fun z => q1 z.1)]
theorem fin_leafS {I J : zI} {L : zL} (h : zRel I J) (k : Nat) (hk : k < 7 := by decide) {c d : Int32} (hc : c = (-1000001) - nI k := by rfl) (hd : d = nI k := by rfl) : ∃ (r : Int32) (I' : zI) (L' : zL) (J' : zI), (zb (fX7_finding c I) fun o => some (o.1, o.2, L)) = some (r, I', L') ∧ (zb (fX8_finding d J) fun o => some (o.1, o.2)) = some (r, J') ∧ zRel I' J' ∧ zO7 I I' ∧ zO8 J J' := by
  subst hc hd
  rw [find7 hk, find8 hk]
  exact ⟨_, _, _, _, rfl, rfl, zRel_find h hk, zO7.up (by omega), zO8.up (by omega)⟩
/-- an answer, or that there is none -/
theorem none_leafS {I J I1 J1 : zI} {L : zL} {v : Int32} (hv : v = (-1) ∨ ∃ k : Nat, k < 2 ^ 31 ∧ v = nI k) (h : zRel I1 J1 ∧ zO7 I I1 ∧ zO8 J J1) : ∃ (r : Int32) (I' : zI) (L' : zL) (J' : zI), (zb (fX7_foundOrNone v I1) fun o => some (o.1, o.2, L)) = some (r, I', L') ∧ (zb (fX8_orNone v J1) fun o => some (o.1, o.2)) = some (r, J') ∧ zRel I' J' ∧ zO7 I I' ∧ zO8 J J' := by
  obtain ⟨h1, h2, h3⟩ := h
  unfold fX7_foundOrNone fX8_orNone
  rcases hv with rfl | ⟨k, hk, rfl⟩
  · rw [if_pos rfl, if_neg (by decide)]
    rw [show fX7_finding (-1000004) I1 = _ from find7 (k := 3) (by decide) I1, show fX8_finding 3 J1 = _ from find8 (k := 3) (by decide) J1]
    exact ⟨_, _, _, _, rfl, rfl, zRel_find h1 (by decide), h2.tr (zO7.up (by omega)), h3.tr (zO8.up (by omega))⟩
  · rw [if_neg (nI_nm1 hk), if_pos (nI_pos' hk)]
    exact ⟨_, _, _, _, rfl, rfl, h1, h2, h3⟩
theorem q_task (a b c : Int32) (I J : zI) (L : zL) (h : zRel I J) : ∃ r I' L' J', fX7_task 1000 a b c I L = some (r, I', L') ∧ fX8_task 1000 a b c J = some (r, J') ∧ zRel I' J' ∧ zO7 I I' ∧ zO8 J J' := by
  obtain ⟨m, hm, e8, e7⟩ := h.folk
  obtain ⟨n, hn, t8, t7⟩ := h.many
  unfold fX7_task fX8_task
  rw [isTask7 e7 hm t7 hn, isTask8 e8 hm t8 hn, zb_s, zb_s, zif, zif]
  by_cases q : ¬ (zlt m a ∧ zlt n b ∧ zlt 8 c)
  · rw [zite_f q, zite_f q]; exact fin_leafS h 0
  replace q := Classical.not_not.mp q
  rw [zite_t q, zite_t q]
  obtain ⟨⟨i, hi, rfl⟩, ⟨t, ht, rfl⟩, ⟨r, hr, rfl⟩⟩ := q
  obtain ⟨p0, hp, ep⟩ := h.wf.place (show i < 4 by omega)
  obtain ⟨r0, hr0, er⟩ := h.wf.room (show t < 8 by omega)
  obtain ⟨v, I', L', J', a1, a2, a3, a4, a5⟩ := few_both (L := L) (w := 1) (by omega) h.1 (show i < 4 by omega) (show t < 8 by omega) hr hp hr0 ep er
  rw [a1, a2, zb_s, zb_s]
  dsimp only
  exact none_leafS ((zLe_val a5).imp id (fun ⟨k, hk, e⟩ => ⟨k, by omega, e⟩)) (side_rel h (fun c hc => a3 c (by omega)) (fun k _ => by rw [a4.row]) a4.sd)
theorem rooms_both {i t : Nat} {I J : zI} {L : zL} {a : Int32} (h : zRel I J) (hi : i < 4) (ht : t < 8) : ∃ (v : Int32) (I' : zI) (L' : zL) (J' : zI), fX1_roomsFor 1000 1 (nI i) (nI t) a I L = some (v, I', L') ∧ fX8_roomsFor 1000 (nI i) (nI t) a J = some (v, J') ∧ zRel I' J' ∧ zO7 I I' ∧ zO8 J J' := by
  obtain ⟨p0, hp, ep⟩ := h.wf.place hi
  obtain ⟨r0, hr0, er⟩ := h.wf.room ht
  obtain ⟨I', L', a1, a2, a3⟩ := explore7 (a := a) (g := -1) (L := L) (C := zlg (J 51) i t) (R := fun l => ¬ a = 0 ∧ zlg (J 51) i t (l + 1)) (w := 1) (by omega) h.1 hi ht hp hr0 ep er (fun _ => Iff.rfl) (fun _ => Iff.rfl) (Or.inl rfl)
  obtain ⟨J', b1, b2, b3⟩ := walksAll8 (a2 := nI t) (a3 := a) (C := zlg (J 51) i t) (R := fun l => ¬ a = 0 ∧ zlg (J 51) i t (l + 1)) h.wf (Or.inr ⟨t, ht, rfl, fun l => ⟨Iff.rfl, Iff.rfl⟩⟩) hi hp hr0 ep (Or.inr ⟨t, ht, rfl, er⟩)
  obtain ⟨r, u, e1, e2, e3⟩ := zit_rel (g := gX1_roomsFor_16 (I', L')) (f := gX8_roomsFor_13 1000 J') (fun k x y => ∃ (j : Nat) (v : Int32), j ≤ 8 ∧ k = 8 - j ∧ x = (v, nI j) ∧ y = (v, nI j)) (fun r u => r = u) (by
    rintro k x y ⟨j, v, hj, rfl, rfl, rfl⟩
    unfold gX1_roomsFor_16 gX8_roomsFor_13
    dsimp only
    by_cases q : j = 8
    · subst q
      right
      rw [if_pos (show (8 : Int32) ≤ nI 8 from Int32.le_refl _), if_pos (show (8 : Int32) ≤ nI 8 from Int32.le_refl _)]
      exact ⟨_, _, rfl, rfl, rfl⟩
    left
    have hj8 : j < 8 := by omega
    obtain ⟨v', c1, c2⟩ := leastFor8 hj8 b2
    have e := zLe_one (a3 j hj8 (Or.inl rfl)) c2
    rw [if_neg (show ¬ (8 : Int32) ≤ nI j from zz_nle (b := 8) (by omega) hj8), if_neg (show ¬ (8 : Int32) ≤ nI j from zz_nle (b := 8) (by omega) hj8), zg_k _ hj8, zn_k (show j < 2 ^ 31 by omega), c1, zb_s]
    simp only [zl_s, nI_1, Int32.or_zero]
    rcases zLe_val c2 with z | ⟨k, hk, z⟩
    · rw [if_pos (e.trans z), z, if_neg (by decide)]
      exact ⟨_, _, 8 - (j + 1), rfl, rfl, by omega, j + 1, _, by omega, rfl, rfl, rfl⟩
    · rw [if_neg (show ¬ I' 32 j = (-1) by rw [e, z]; exact nI_nm1 (by omega)), z, if_pos (nI_pos' (by omega))]
      exact ⟨_, _, 8 - (j + 1), rfl, rfl, by omega, j + 1, _, by omega, rfl, rfl, rfl⟩) 1000 8 (0, 0) (0, 0) ⟨0, 0, by omega, rfl, rfl, rfl⟩ (by omega)
  subst e3
  refine ⟨r, I', L', J', ?_, ?_, side_rel h (fun c hc => a2 c (by omega)) (fun k _ => by rw [b3.row]) b3.sd⟩
  · unfold fX1_roomsFor
    rw [a1, zb_s, e1, zb_s]
  · unfold fX8_roomsFor
    rw [b1, zb_s, e2, zb_s]
theorem q_can (a b : Int32) (I J : zI) (L : zL) (h : zRel I J) : ∃ r I' L' J', fX7_can 1000 a b I L = some (r, I', L') ∧ fX8_can 1000 a b J = some (r, J') ∧ zRel I' J' ∧ zO7 I I' ∧ zO8 J J' := by
  obtain ⟨m, hm, e8, e7⟩ := h.folk
  obtain ⟨n, hn, t8, t7⟩ := h.many
  unfold fX7_can fX8_can
  rw [one7 a e7 hm, one8 a e8 hm, thing7 b t7 hn, thing8 b t8 hn, zb_s, zb_s, zb_s, zb_s, zif, zif, zif, zif]
  by_cases ha : ¬ zlt m a
  · rw [zite_f ha, zite_f ha]; exact fin_leafS h 0
  replace ha := Classical.not_not.mp ha
  rw [zite_t ha, zite_t ha]
  by_cases hb : ¬ zlt n b
  · rw [zite_f hb, zite_f hb]; exact fin_leafS h 0
  replace hb := Classical.not_not.mp hb
  rw [zite_t hb, zite_t hb]
  obtain ⟨i, hi, rfl⟩ := ha
  obtain ⟨t, ht, rfl⟩ := hb
  obtain ⟨v, I', L', J', a1, a2, a3⟩ := rooms_both (L := L) (a := 1) h (show i < 4 by omega) (show t < 8 by omega)
  rw [a1, a2, zb_s, zb_s]
  exact ⟨_, _, _, _, rfl, rfl, a3⟩
theorem q_above (a b : Int32) (I J : zI) (L : zL) (h : zRel I J) : ∃ r I' L' J', fX7_above 1000 a b I L = some (r, I', L') ∧ fX8_above_ 1000 a b J = some (r, J') ∧ zRel I' J' ∧ zO7 I I' ∧ zO8 J J' := by
  obtain ⟨m, hm, e8, e7⟩ := h.folk
  obtain ⟨n, hn, t8, t7⟩ := h.many
  unfold fX7_above fX8_above_
  rw [one7 a e7 hm, one8 a e8 hm, thing7 b t7 hn, thing8 b t8 hn, zb_s, zb_s, zb_s, zb_s, zif, zif, zif, zif]
  by_cases ha : ¬ zlt m a
  · rw [zite_f ha, zite_f ha]; exact fin_leafS h 0
  replace ha := Classical.not_not.mp ha
  rw [zite_t ha, zite_t ha]
  by_cases hb : ¬ zlt n b
  · rw [zite_f hb, zite_f hb]; exact fin_leafS h 0
  replace hb := Classical.not_not.mp hb
  rw [zite_t hb, zite_t hb]
  obtain ⟨i, hi, rfl⟩ := ha
  obtain ⟨t, ht, rfl⟩ := hb
  obtain ⟨v, I', L', J', a1, a2, a3, a4, a5⟩ := rooms_both (L := L) (a := 1) h (show i < 4 by omega) (show t < 8 by omega)
  obtain ⟨v2, I2, L2, J2, b1, b2, b3, b4, b5⟩ := rooms_both (L := L') (a := 0) a3 (show i < 4 by omega) (show t < 8 by omega)
  rw [a1, a2, zb_s, zb_s]
  dsimp only
  rw [b1, b2, zb_s, zb_s]
  exact ⟨_, _, _, _, rfl, rfl, b3, a4.tr b4, a5.tr b5⟩
/-- the best so far: which, and in how many steps -/
def zBs (b f : Int32) : Prop := (b = (-1) ∧ f = (-1)) ∨ ((∃ k : Nat, k < 100 ∧ b = nI k) ∧ ∃ k : Nat, k < 320 ∧ f = nI k)
def zFe (v f : Int32) : Prop := ¬ v = (-1) ∧ (f = (-1) ∨ v < f)
theorem fewer7 (v f : Int32) : fX7_isFewer v f = some (zp (zFe v f)) := by
  unfold fX7_isFewer zFe
  by_cases q : v = (-1)
  · rw [if_pos q, zp_f (fun z => z.1 q)]
  · rw [if_neg q]
    by_cases q2 : f = (-1)
    · rw [if_pos q2, zp_t ⟨q, Or.inl q2⟩]
    · rw [if_neg q2]
      by_cases q3 : f ≤ v
      · rw [if_pos q3, zp_f (fun z => z.2.elim q2 (fun y => Int32.not_lt.mpr q3 y))]
      · rw [if_neg q3, zp_t ⟨q, Or.inr (Int32.not_le.mp q3)⟩]
theorem zBs_new {b f v : Int32} {n : Nat} (h : zBs b f) (hv : v = (-1) ∨ ∃ k : Nat, k < 320 ∧ v = nI k) (hn : n < 100) : zBs (zite (zFe v f) (nI n) b) (zite (zFe v f) v f) := by
  by_cases q : zFe v f
  · rw [zite_t q, zite_t q]
    exact Or.inr ⟨⟨n, hn, rfl⟩, hv.resolve_left q.1⟩
  · rw [zite_f q, zite_f q]; exact h
theorem tries8 {b f v : Int32} {Y : zI} {x : Int32} (h : zBs b f) (hv : v = (-1) ∨ ∃ k : Nat, k < 320 ∧ v = nI k) (eb : Y 50 11 = b) (ef : Y 50 12 = f) : ∃ Y', fX8_tries x v Y = some Y' ∧ Y' 50 11 = zite (zFe v f) x b ∧ Y' 50 12 = zite (zFe v f) v f ∧ Y' 51 = Y 51 ∧ zSd Y Y' := by
  have set : ∃ Y', (zl (zup Y 50 11 x) fun J3 => zl (zup J3 50 12 v) fun J4 => some J4) = some Y' ∧ Y' 50 11 = x ∧ Y' 50 12 = v ∧ Y' 51 = Y 51 ∧ zSd Y Y' := by
    rw [zl_s, zl_s]
    exact ⟨_, rfl, by rw [zup_r (by omega), zup_s], zup_s, by rw [zup_ne (by omega), zup_ne (by omega)], (zSd.up50 (Or.inl rfl)).tr (zSd.up50 (Or.inr rfl))⟩
  unfold fX8_tries
  rw [eb, ef]
  rcases hv with rfl | ⟨k, hk, rfl⟩
  · rw [if_pos (by decide), zite_f (fun z => z.1 rfl), zite_f (fun z => z.1 rfl)]
    exact ⟨Y, rfl, eb, ef, rfl, zSd.rf⟩
  · rw [if_neg (nI_pos (by omega))]
    rcases h with ⟨rfl, rfl⟩ | ⟨⟨b', hb, rfl⟩, ⟨f', hf, rfl⟩⟩
    · rw [if_pos (by decide), zite_t ⟨nI_nm1 (by omega), Or.inl rfl⟩, zite_t ⟨nI_nm1 (by omega), Or.inl rfl⟩]
      exact set
    · rw [if_neg (nI_pos (by omega))]
      by_cases q : nI f' ≤ nI k
      · have nq : ¬ zFe (nI k) (nI f') := fun z => z.2.elim (nI_nm1 (by omega)) (fun y => Int32.not_lt.mpr q y)
        rw [if_pos q, zite_f nq, zite_f nq]
        exact ⟨Y, rfl, eb, ef, rfl, zSd.rf⟩
      · have nq : zFe (nI k) (nI f') := ⟨nI_nm1 (by omega), Or.inr (Int32.not_le.mp q)⟩
        rw [if_neg q, zite_t nq, zite_t nq]
        exact set
theorem zBs_val {b f : Int32} (h : zBs b f) : b = (-1) ∨ ∃ k : Nat, k < 2 ^ 31 ∧ b = nI k := by
  rcases h with ⟨e, _⟩ | ⟨⟨k, hk, e⟩, _⟩
  · exact Or.inl e
  · exact Or.inr ⟨k, by omega, e⟩
theorem begins8 (J : zI) : ∃ Y, fX8_begins J = some Y ∧ Y 50 11 = (-1) ∧ Y 50 12 = (-1) ∧ Y 51 = J 51 ∧ zSd J Y := by
  unfold fX8_begins
  rw [zl_s, zl_s]
  exact ⟨_, rfl, by rw [zup_r (by omega), zup_s], zup_s, by rw [zup_ne (by omega), zup_ne (by omega)], (zSd.up50 (Or.inl rfl)).tr (zSd.up50 (Or.inr rfl))⟩
theorem q_who (a b : Int32) (I J : zI) (L : zL) (h : zRel I J) : ∃ r I' L' J', fX7_who 1000 a b I L = some (r, I', L') ∧ fX8_who 1000 a b J = some (r, J') ∧ zRel I' J' ∧ zO7 I I' ∧ zO8 J J' := by
  obtain ⟨m, hm, e8, e7⟩ := h.folk
  obtain ⟨n, hn, t8, t7⟩ := h.many
  have g12 : ∀ t : Option ((Int32 × zI) ⊕ zI), zg 12 120 t = t := fun t => zg_k (i := 12) t (by decide)
  have n12 : zn 12 = 12 := rfl
  unfold fX7_who fX8_who
  rw [thing7 a t7 hn, thing8 a t8 hn, room7, room8, zb_s, zb_s, zb_s, zb_s, zif, zif, zif, zif]
  by_cases ha : ¬ zlt n a
  · rw [zite_f ha, zite_f ha]; exact fin_leafS h 0
  replace ha := Classical.not_not.mp ha
  rw [zite_t ha, zite_t ha]
  by_cases hb : ¬ zlt 8 b
  · rw [zite_f hb, zite_f hb]; exact fin_leafS h 0
  replace hb := Classical.not_not.mp hb
  rw [zite_t hb, zite_t hb]
  obtain ⟨t, ht, rfl⟩ := ha
  obtain ⟨r, hr, rfl⟩ := hb
  obtain ⟨Y0, y1, y2, y3, y4, y5⟩ := begins8 J
  rw [y1, zb_s]
  obtain ⟨⟨bb, I', L'⟩, Y', e1, e2, ff, e3, e4, e5, e6, e7'⟩ := zit_rel (g := gX7_who_30 1000 (nI t) (nI r)) (f := gX8_who_27 1000 (nI t) (nI r)) (fun k x y => ∃ (j : Nat) (b f : Int32) (X : zI) (M : zL) (Y : zI), j ≤ m ∧ k = m - j ∧ x = (b, f, nI j, X, M) ∧ y = (nI j, Y) ∧ zBs b f ∧ Y 50 11 = b ∧ Y 50 12 = f ∧ (∀ c : Nat, c ≠ 32 → X c = I c) ∧ Y 51 = J 51 ∧ zSd J Y) (fun (x : Int32 × zI × zL) (y : zI) => ∃ f : Int32, zBs x.1 f ∧ y 50 11 = x.1 ∧ (∀ c : Nat, c ≠ 32 → x.2.1 c = I c) ∧ y 51 = J 51 ∧ zSd J y) (by
    rintro k x y ⟨j, b, f, X, M, Y, hj, rfl, rfl, rfl, hB, eb, ef, hX, hY, hS⟩
    unfold gX7_who_30 gX8_who_27
    dsimp only
    have c7 : X 1 8 = nI m := by rw [hX 1 (by omega)]; exact e7
    have c8 : Y 51 12 = nI m := by rw [hY]; exact e8
    simp only [g12, n12, c7, c8]
    by_cases q : j = m
    · subst q
      right
      rw [if_pos (Int32.le_refl _), if_pos (Int32.le_refl _)]
      exact ⟨_, _, rfl, rfl, f, hB, eb, hX, hY, hS⟩
    left
    have hj2 : j < m := by omega
    rw [if_neg (zz_nle (by omega) hj2), if_neg (zz_nle (by omega) hj2)]
    have hw : zRw 1 X Y := zRw_congr h.1 (fun c c1 c2 => hX c (by omega)) hY
    obtain ⟨p0, hp, ep⟩ := hw.2.place (show j < 4 by omega)
    obtain ⟨r0, hr0, er⟩ := hw.2.room (show t < 8 by omega)
    obtain ⟨v, X1, M1, Y1, a1, a2, a3, a4, a5⟩ := few_both (L := M) (w := 1) (by omega) hw (show j < 4 by omega) (show t < 8 by omega) hr hp hr0 ep er
    rw [a1, a2, zb_s, zb_s]
    dsimp only
    obtain ⟨Y2, b1, b2, b3, b4, b5⟩ := tries8 (x := nI j) (Y := Y1) hB (zLe_val a5) ((a4 50 11 (by omega) (by omega) (by omega)).trans eb) ((a4 50 12 (by omega) (by omega) (by omega)).trans ef)
    rw [b1, fewer7, zb_s, zb_s, zif, zl_s, zl_s, zl_s, nI_1]
    refine ⟨(zite (zFe v f) (nI j) b, zite (zFe v f) v f, nI (j + 1), X1, M1), _, m - (j + 1), ?_, rfl, by omega, j + 1, _, _, X1, M1, Y2, by omega, rfl, rfl, rfl, zBs_new hB (zLe_val a5) (by omega), b2, b3, fun c hc => (a3 c hc).trans (hX c hc), b4.trans (a4.row.trans hY), hS.tr (a4.sd.tr b5)⟩
    by_cases z : zFe v f
    · rw [zite_t z, zite_t z, zite_t z]
    · rw [zite_f z, zite_f z, zite_f z]) 1000 m ((-1), (-1), 0, I, L) (0, Y0) ⟨0, -1, -1, I, L, Y0, by omega, rfl, rfl, rfl, Or.inl ⟨rfl, rfl⟩, y2, y3, fun _ _ => rfl, y4, y5⟩ (by omega)
  rw [e1, e2, zb_s, zb_s]
  dsimp only at e3 e4 e5 ⊢
  rw [e4]
  exact none_leafS (zBs_val e3) (side_rel h (fun c hc => e5 c (by omega)) (fun k _ => by rw [e6]) e7')
