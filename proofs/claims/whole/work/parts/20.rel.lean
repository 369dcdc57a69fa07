/-! the two systems held against each other: the class's cells in a heap I, the reference's in a heap J -/
def zlt (b : Nat) (x : Int32) : Prop := ∃ k : Nat, k < b ∧ x = nI k
/-- cell and slot, in the World w, of place j of the reference's row -/
def zcm (w j : Nat) : Nat × Nat :=
  if j < 8 then (w + 1, j) else if j < 12 then (w, j - 7) else if j = 12 then (w, 8) else if j < 15 then (w, j - 2) else if j < 17 then (w, j) else if j = 17 then (w, 13)
  else if j < 28 then (w + 8, j - 18) else if j < 36 then (w + 2, j - 28) else if j < 44 then (w + 3, j - 36) else if j < 52 then (w + 4, j - 44) else if j < 56 then (w + 5, j - 52) else if j < 60 then (w + 6, j - 56) else (w + 7, j - 60)
def rW (I : zI) (w j : Nat) : Int32 := I (zcm w j).1 (zcm w j).2
theorem zcm_inj0 : ∀ j : Nat, j < 120 → ∀ k : Nat, k < 120 → zcm 0 j = zcm 0 k → j = k := by decide +kernel
theorem zcm_w (w j : Nat) : zcm w j = (w + (zcm 0 j).1, (zcm 0 j).2) := by
  unfold zcm
  by_cases h0 : j < 8
  · simp only [h0, ↓reduceIte, Nat.zero_add, Nat.add_zero]
  by_cases h1 : j < 12
  · simp only [h0, h1, ↓reduceIte, Nat.zero_add, Nat.add_zero]
  by_cases h2 : j = 12
  · subst h2; rfl
  by_cases h3 : j < 15
  · simp only [h0, h1, h2, h3, ↓reduceIte, Nat.zero_add, Nat.add_zero]
  by_cases h4 : j < 17
  · simp only [h0, h1, h2, h3, h4, ↓reduceIte, Nat.zero_add, Nat.add_zero]
  by_cases h5 : j = 17
  · subst h5; rfl
  by_cases h6 : j < 28
  · simp only [h0, h1, h2, h3, h4, h5, h6, ↓reduceIte, Nat.zero_add, Nat.add_zero]
  by_cases h7 : j < 36
  · simp only [h0, h1, h2, h3, h4, h5, h6, h7, ↓reduceIte, Nat.zero_add, Nat.add_zero]
  by_cases h8 : j < 44
  · simp only [h0, h1, h2, h3, h4, h5, h6, h7, h8, ↓reduceIte, Nat.zero_add, Nat.add_zero]
  by_cases h9 : j < 52
  · simp only [h0, h1, h2, h3, h4, h5, h6, h7, h8, h9, ↓reduceIte, Nat.zero_add, Nat.add_zero]
  by_cases h10 : j < 56
  · simp only [h0, h1, h2, h3, h4, h5, h6, h7, h8, h9, h10, ↓reduceIte, Nat.zero_add, Nat.add_zero]
  by_cases h11 : j < 60
  · simp only [h0, h1, h2, h3, h4, h5, h6, h7, h8, h9, h10, h11, ↓reduceIte, Nat.zero_add, Nat.add_zero]
  simp only [h0, h1, h2, h3, h4, h5, h6, h7, h8, h9, h10, h11, ↓reduceIte, Nat.zero_add, Nat.add_zero]
theorem zcm_inj {w j k : Nat} (hj : j < 120) (hk : k < 120) (h : zcm w j = zcm w k) : j = k := by
  apply zcm_inj0 j hj k hk
  rw [zcm_w w j, zcm_w w k] at h
  injection h with h1 h2
  exact Prod.ext (by omega) h2
theorem zcm_range0 : ∀ j : Nat, j < 120 → (zcm 0 j).1 ≤ 8 := by decide +kernel
theorem zcm_range {w j : Nat} (hj : j < 120) : w ≤ (zcm w j).1 ∧ (zcm w j).1 ≤ w + 8 := by
  have := zcm_range0 j hj
  rw [zcm_w]
  exact ⟨by simp, by simp; omega⟩
theorem zup_at {I : zI} {c s : Nat} {v : Int32} {a b : Nat} : zup I c s v a b = if a = c ∧ b = s then v else I a b := by
  unfold zup
  by_cases h : a = c
  · subst h
    rw [if_pos rfl]
    unfold upd
    by_cases h2 : b = s
    · rw [if_pos h2, if_pos ⟨rfl, h2⟩]
    · rw [if_neg h2, if_neg (fun q => h2 q.2)]
  · rw [if_neg h, if_neg (fun q => h q.1)]
theorem rW_up {I : zI} {w j k : Nat} {v : Int32} (hj : j < 120) (hk : k < 120) : rW (zup I (zcm w j).1 (zcm w j).2 v) w k = upd (rW I w) j v k := by
  unfold rW upd
  rw [zup_at]
  by_cases h : k = j
  · subst h
    rw [if_pos ⟨rfl, rfl⟩, if_pos rfl]
  · rw [if_neg h, if_neg]
    intro q
    exact h (zcm_inj hk hj (Prod.ext q.1 q.2))
/-- what place j of the row may hold -/
def zok (j : Nat) (x : Int32) : Prop :=
  if j < 8 then zlt 256 x else if j = 8 ∨ j = 9 then zlt 8 x else if j = 11 then zlt 9 x else if j = 12 then zlt 5 x else if j = 17 then zlt 13 x
  else if 28 ≤ j ∧ j < 36 then zlt 7 x else if 36 ≤ j ∧ j < 44 then zlt 8 x else if 44 ≤ j ∧ j < 52 then zlt 61 x else if 52 ≤ j ∧ j < 56 then zlt 40 x else if 56 ≤ j ∧ j < 60 then zlt 61 x else True
def zsp (S : Nat → Int32) : Prop := ∀ k : Nat, k < 10 → S (18 + k) = (-1) ∨ ∃ t m : Nat, t < m ∧ m < 9 ∧ S 11 = nI m ∧ S (18 + k) = nI t
/-- a door is open from both sides -/
def zsy (S : Nat → Int32) : Prop := ∀ a b : Nat, a < 8 → b < 8 → zshr (S a) (nI b) &&& 1 = zshr (S b) (nI a) &&& 1
def zWF (S : Nat → Int32) : Prop := (∀ j : Nat, j < 120 → zok j (S j)) ∧ zsp S ∧ zsy S
theorem zWF_upd {S : Nat → Int32} {j : Nat} {v : Int32} (h : zWF S) (hv : zok j v) (hn : 8 ≤ j ∧ j ≠ 11 ∧ ¬ (18 ≤ j ∧ j < 28)) : zWF (upd S j v) := by
  refine ⟨fun k hk => ?_, fun k hk => ?_, fun a b ha hb => ?_⟩
  · unfold upd
    by_cases q : k = j
    · rw [if_pos q, q]; exact hv
    · rw [if_neg q]; exact h.1 k hk
  · unfold upd
    rw [if_neg (by omega), if_neg (by omega)]
    exact h.2.1 k hk
  · unfold upd
    rw [if_neg (by omega), if_neg (by omega)]
    exact h.2.2 a b ha hb
theorem zWF_congr {S S' : Nat → Int32} (h : zWF S) (he : ∀ j, j < 120 → S' j = S j) : zWF S' := by
  refine ⟨fun k hk => by rw [he k hk]; exact h.1 k hk, fun k hk => ?_, fun a b ha hb => ?_⟩
  · rw [he _ (by omega), he 11 (by omega)]
    exact h.2.1 k hk
  · rw [he a (by omega), he b (by omega)]
    exact h.2.2 a b ha hb
/-- the World w of I is the row of J -/
def zRw (w : Nat) (I J : zI) : Prop := (∀ k : Nat, k < 120 → rW I w k = J 51 k) ∧ zWF (J 51)
theorem zRw_up {w : Nat} {I J : zI} {j c s : Nat} {v : Int32} (h : zRw w I J) (hj : j < 120) (hc : zcm w j = (c, s)) (hv : zok j v) (hn : 8 ≤ j ∧ j ≠ 11 ∧ ¬ (18 ≤ j ∧ j < 28)) : zRw w (zup I c s v) (zup J 51 j v) := by
  have hc1 : c = (zcm w j).1 := by rw [hc]
  have hc2 : s = (zcm w j).2 := by rw [hc]
  subst hc1 hc2
  refine ⟨fun k hk => ?_, ?_⟩
  · rw [rW_up hj hk, zup_same]
    unfold upd
    by_cases q : k = j
    · rw [if_pos q, if_pos q]
    · rw [if_neg q, if_neg q]; exact h.1 k hk
  · rw [zup_same]; exact zWF_upd h.2 hv hn
theorem zRw_congr {w : Nat} {I J I' J' : zI} (h : zRw w I J) (hI : ∀ c, w ≤ c → c ≤ w + 8 → I' c = I c) (hJ : J' 51 = J 51) : zRw w I' J' := by
  refine ⟨fun k hk => ?_, by rw [hJ]; exact h.2⟩
  rw [hJ, ← h.1 k hk]
  unfold rW
  rw [hI _ (zcm_range hk).1 (zcm_range hk).2]
-- readings
theorem zRw.at {w : Nat} {I J : zI} (h : zRw w I J) {c s : Nat} (j : Nat) (hj : j < 120) (hc : zcm w j = (c, s)) : I c s = J 51 j := by
  rw [← h.1 j hj]
  unfold rW
  rw [hc]
theorem zRw.door {w : Nat} {I J : zI} (h : zRw w I J) {k : Nat} (hk : k < 8) : I (w + 1) k = J 51 k := h.at k (by omega) (by unfold zcm; rw [if_pos hk])
theorem zRw.small {w : Nat} {I J : zI} (h : zRw w I J) : I w 1 = J 51 8 := h.at 8 (by omega) rfl
theorem zRw.gate {w : Nat} {I J : zI} (h : zRw w I J) : I w 2 = J 51 9 := h.at 9 (by omega) rfl
theorem zRw.slip {w : Nat} {I J : zI} (h : zRw w I J) : I w 3 = J 51 10 := h.at 10 (by omega) rfl
theorem zRw.things {w : Nat} {I J : zI} (h : zRw w I J) : I w 4 = J 51 11 := h.at 11 (by omega) rfl
theorem zRw.people {w : Nat} {I J : zI} (h : zRw w I J) : I w 8 = J 51 12 := h.at 12 (by omega) rfl
theorem zRw.moves {w : Nat} {I J : zI} (h : zRw w I J) : I w 11 = J 51 13 := h.at 13 (by omega) rfl
theorem zRw.met {w : Nat} {I J : zI} (h : zRw w I J) : I w 12 = J 51 14 := h.at 14 (by omega) rfl
theorem zRw.day {w : Nat} {I J : zI} (h : zRw w I J) : I w 15 = J 51 15 := h.at 15 (by omega) rfl
theorem zRw.z {w : Nat} {I J : zI} (h : zRw w I J) : I w 16 = J 51 16 := h.at 16 (by omega) rfl
theorem zRw.booked {w : Nat} {I J : zI} (h : zRw w I J) : I w 13 = J 51 17 := h.at 17 (by omega) rfl
theorem zcm_spot {w k : Nat} (hk : k < 10) : zcm w (18 + k) = (w + 8, k) := by
  unfold zcm
  rw [if_neg (by omega), if_neg (by omega), if_neg (by omega), if_neg (by omega), if_neg (by omega), if_neg (by omega), if_pos (by omega)]
  rw [Nat.add_sub_cancel_left]
theorem zcm_kind {w k : Nat} (hk : k < 8) : zcm w (28 + k) = (w + 2, k) := by
  unfold zcm
  rw [if_neg (by omega), if_neg (by omega), if_neg (by omega), if_neg (by omega), if_neg (by omega), if_neg (by omega), if_neg (by omega), if_pos (by omega)]
  rw [Nat.add_sub_cancel_left]
theorem zcm_room {w k : Nat} (hk : k < 8) : zcm w (36 + k) = (w + 3, k) := by
  unfold zcm
  rw [if_neg (by omega), if_neg (by omega), if_neg (by omega), if_neg (by omega), if_neg (by omega), if_neg (by omega), if_neg (by omega), if_neg (by omega), if_pos (by omega)]
  rw [Nat.add_sub_cancel_left]
theorem zcm_bulk {w k : Nat} (hk : k < 8) : zcm w (44 + k) = (w + 4, k) := by
  unfold zcm
  rw [if_neg (by omega), if_neg (by omega), if_neg (by omega), if_neg (by omega), if_neg (by omega), if_neg (by omega), if_neg (by omega), if_neg (by omega), if_neg (by omega), if_pos (by omega)]
  rw [Nat.add_sub_cancel_left]
theorem zcm_place {w k : Nat} (hk : k < 4) : zcm w (52 + k) = (w + 5, k) := by
  unfold zcm
  rw [if_neg (by omega), if_neg (by omega), if_neg (by omega), if_neg (by omega), if_neg (by omega), if_neg (by omega), if_neg (by omega), if_neg (by omega), if_neg (by omega), if_neg (by omega), if_pos (by omega)]
  rw [Nat.add_sub_cancel_left]
theorem zcm_strength {w k : Nat} (hk : k < 4) : zcm w (56 + k) = (w + 6, k) := by
  unfold zcm
  rw [if_neg (by omega), if_neg (by omega), if_neg (by omega), if_neg (by omega), if_neg (by omega), if_neg (by omega), if_neg (by omega), if_neg (by omega), if_neg (by omega), if_neg (by omega), if_neg (by omega), if_pos (by omega)]
  rw [Nat.add_sub_cancel_left]
theorem zcm_book {w k : Nat} : zcm w (60 + k) = (w + 7, k) := by
  unfold zcm
  rw [if_neg (by omega), if_neg (by omega), if_neg (by omega), if_neg (by omega), if_neg (by omega), if_neg (by omega), if_neg (by omega), if_neg (by omega), if_neg (by omega), if_neg (by omega), if_neg (by omega), if_neg (by omega)]
  rw [Nat.add_sub_cancel_left]
theorem zRw.spot {w : Nat} {I J : zI} (h : zRw w I J) {k : Nat} (hk : k < 10) : I (w + 8) k = J 51 (18 + k) := h.at _ (by omega) (zcm_spot hk)
theorem zRw.kind {w : Nat} {I J : zI} (h : zRw w I J) {k : Nat} (hk : k < 8) : I (w + 2) k = J 51 (28 + k) := h.at _ (by omega) (zcm_kind hk)
theorem zRw.room {w : Nat} {I J : zI} (h : zRw w I J) {k : Nat} (hk : k < 8) : I (w + 3) k = J 51 (36 + k) := h.at _ (by omega) (zcm_room hk)
theorem zRw.bulk {w : Nat} {I J : zI} (h : zRw w I J) {k : Nat} (hk : k < 8) : I (w + 4) k = J 51 (44 + k) := h.at _ (by omega) (zcm_bulk hk)
theorem zRw.place {w : Nat} {I J : zI} (h : zRw w I J) {k : Nat} (hk : k < 4) : I (w + 5) k = J 51 (52 + k) := h.at _ (by omega) (zcm_place hk)
theorem zRw.strength {w : Nat} {I J : zI} (h : zRw w I J) {k : Nat} (hk : k < 4) : I (w + 6) k = J 51 (56 + k) := h.at _ (by omega) (zcm_strength hk)
theorem zRw.book {w : Nat} {I J : zI} (h : zRw w I J) {k : Nat} (hk : k < 60) : I (w + 7) k = J 51 (60 + k) := h.at _ (by omega) zcm_book
-- bounds
theorem zWF.door {S : Nat → Int32} (h : zWF S) {k : Nat} (hk : k < 8) : zlt 256 (S k) := by
  have := h.1 k (by omega); unfold zok at this; rw [if_pos hk] at this; exact this
theorem zWF.small {S : Nat → Int32} (h : zWF S) : zlt 8 (S 8) := h.1 8 (by omega)
theorem zWF.gate {S : Nat → Int32} (h : zWF S) : zlt 8 (S 9) := h.1 9 (by omega)
theorem zWF.many {S : Nat → Int32} (h : zWF S) : zlt 9 (S 11) := h.1 11 (by omega)
theorem zWF.folk {S : Nat → Int32} (h : zWF S) : zlt 5 (S 12) := h.1 12 (by omega)
theorem zWF.booked {S : Nat → Int32} (h : zWF S) : zlt 13 (S 17) := h.1 17 (by omega)
theorem zok_kind {k : Nat} {x : Int32} (hk : k < 8) : zok (28 + k) x = zlt 7 x := by
  unfold zok
  rw [if_neg (by omega), if_neg (by omega), if_neg (by omega), if_neg (by omega), if_neg (by omega), if_pos (by omega)]
theorem zok_room {k : Nat} {x : Int32} (hk : k < 8) : zok (36 + k) x = zlt 8 x := by
  unfold zok
  rw [if_neg (by omega), if_neg (by omega), if_neg (by omega), if_neg (by omega), if_neg (by omega), if_neg (by omega), if_pos (by omega)]
theorem zok_bulk {k : Nat} {x : Int32} (hk : k < 8) : zok (44 + k) x = zlt 61 x := by
  unfold zok
  rw [if_neg (by omega), if_neg (by omega), if_neg (by omega), if_neg (by omega), if_neg (by omega), if_neg (by omega), if_neg (by omega), if_pos (by omega)]
theorem zok_place {k : Nat} {x : Int32} (hk : k < 4) : zok (52 + k) x = zlt 40 x := by
  unfold zok
  rw [if_neg (by omega), if_neg (by omega), if_neg (by omega), if_neg (by omega), if_neg (by omega), if_neg (by omega), if_neg (by omega), if_neg (by omega), if_pos (by omega)]
theorem zok_strength {k : Nat} {x : Int32} (hk : k < 4) : zok (56 + k) x = zlt 61 x := by
  unfold zok
  rw [if_neg (by omega), if_neg (by omega), if_neg (by omega), if_neg (by omega), if_neg (by omega), if_neg (by omega), if_neg (by omega), if_neg (by omega), if_neg (by omega), if_pos (by omega)]
theorem zok_free {j : Nat} {x : Int32} (h : j = 10 ∨ (13 ≤ j ∧ j < 17) ∨ (18 ≤ j ∧ j < 28) ∨ 60 ≤ j) : zok j x := by
  unfold zok
  rw [if_neg (by omega), if_neg (by omega), if_neg (by omega), if_neg (by omega), if_neg (by omega), if_neg (by omega), if_neg (by omega), if_neg (by omega), if_neg (by omega), if_neg (by omega)]
  trivial
theorem zWF.kind {S : Nat → Int32} (h : zWF S) {k : Nat} (hk : k < 8) : zlt 7 (S (28 + k)) := zok_kind hk ▸ h.1 (28 + k) (by omega)
theorem zWF.room {S : Nat → Int32} (h : zWF S) {k : Nat} (hk : k < 8) : zlt 8 (S (36 + k)) := zok_room hk ▸ h.1 (36 + k) (by omega)
theorem zWF.bulk {S : Nat → Int32} (h : zWF S) {k : Nat} (hk : k < 8) : zlt 61 (S (44 + k)) := zok_bulk hk ▸ h.1 (44 + k) (by omega)
theorem zWF.place {S : Nat → Int32} (h : zWF S) {k : Nat} (hk : k < 4) : zlt 40 (S (52 + k)) := zok_place hk ▸ h.1 (52 + k) (by omega)
theorem zWF.strength {S : Nat → Int32} (h : zWF S) {k : Nat} (hk : k < 4) : zlt 61 (S (56 + k)) := zok_strength hk ▸ h.1 (56 + k) (by omega)
-- the rest
def zRk (I J : zI) : Prop := I 0 3 = J 50 3 ∧ (J 50 3 = 0 ∨ J 50 3 = 1) ∧ (J 50 3 = 1 → (∀ k : Nat, k < 120 → rW I 10 k = J 52 k) ∧ zWF (J 52))
def zRt (I J : zI) : Prop := I 33 1 = J 50 5 ∧ zlt 121 (J 50 5) ∧ ∀ k : Nat, k < 120 → I 34 k = J 54 k
def zRf (I J : zI) : Prop := ∀ k : Nat, k < 7 → I 41 k = J 55 k
def zRs (I J : zI) : Prop := ∀ s : Nat, s < 4 → I (42 + 2 * s) 0 = J 58 s ∧ I (42 + 2 * s) 1 = J 59 s ∧ (∀ k : Nat, k < 40 → I (43 + 2 * s) k = J 60 (40 * s + k)) ∧ zlt 41 (J 59 s) ∧ (J 58 s = 0 ∨ J 58 s = 8 ∨ J 58 s = 16 ∨ J 58 s = 32)
def zRel (I J : zI) : Prop := zRw 1 I J ∧ zRk I J ∧ zRt I J ∧ zRf I J ∧ zRs I J
/-- cells that the rest looks at -/
def zcX (c s : Nat) : Prop := (c = 0 ∧ s = 3) ∨ (10 ≤ c ∧ c ≤ 18) ∨ (c = 33 ∧ s = 1) ∨ c = 34 ∨ (41 ≤ c ∧ c ≤ 49)
def zcY (c s : Nat) : Prop := (c = 50 ∧ (s = 3 ∨ s = 5)) ∨ c = 52 ∨ c = 54 ∨ c = 55 ∨ c = 58 ∨ c = 59 ∨ c = 60
theorem zRel_world {I J I' J' : zI} (h : zRel I J) (hw : zRw 1 I' J') (hI : ∀ c s, zcX c s → I' c s = I c s) (hJ : ∀ c s, zcY c s → J' c s = J c s) : zRel I' J' := by
  obtain ⟨-, ⟨k1, k2, k3⟩, ⟨t1, t2, t3⟩, hf, hs⟩ := h
  refine ⟨hw, ⟨?_, ?_, fun q => ?_⟩, ⟨?_, ?_, fun k hk => ?_⟩, fun k hk => ?_, fun s hs4 => ?_⟩
  · rw [hI 0 3 (Or.inl ⟨rfl, rfl⟩), hJ 50 3 (Or.inl ⟨rfl, Or.inl rfl⟩)]; exact k1
  · rw [hJ 50 3 (Or.inl ⟨rfl, Or.inl rfl⟩)]; exact k2
  · rw [hJ 50 3 (Or.inl ⟨rfl, Or.inl rfl⟩)] at q
    obtain ⟨a, b⟩ := k3 q
    refine ⟨fun k hk => ?_, zWF_congr b (fun j _ => hJ 52 j (Or.inr (Or.inl rfl)))⟩
    rw [hJ 52 k (Or.inr (Or.inl rfl)), ← a k hk]
    unfold rW
    exact hI _ _ (Or.inr (Or.inl ⟨(zcm_range hk).1, (zcm_range hk).2⟩))
  · rw [hI 33 1 (by unfold zcX; omega), hJ 50 5 (by unfold zcY; omega)]; exact t1
  · rw [hJ 50 5 (by unfold zcY; omega)]; exact t2
  · rw [hI 34 k (by unfold zcX; omega), hJ 54 k (by unfold zcY; omega)]; exact t3 k hk
  · rw [hI 41 k (by unfold zcX; omega), hJ 55 k (by unfold zcY; omega)]; exact hf k hk
  · obtain ⟨a1, a2, a3, a4, a5⟩ := hs s hs4
    rw [hI (42 + 2 * s) 0 (by unfold zcX; omega), hI (42 + 2 * s) 1 (by unfold zcX; omega), hJ 58 s (by unfold zcY; omega), hJ 59 s (by unfold zcY; omega)]
    refine ⟨a1, a2, fun k hk => ?_, a4, a5⟩
    rw [hI (43 + 2 * s) k (by unfold zcX; omega), hJ 60 _ (by unfold zcY; omega)]
    exact a3 k hk
/-- what a class's call leaves, what a reference's call leaves -/
def zO7 (I I' : zI) : Prop := ∀ c, 50 ≤ c → I' c = I c
def zO8 (J J' : zI) : Prop := ∀ c, c < 50 → J' c = J c
theorem zO7.rf {I : zI} : zO7 I I := fun _ _ => rfl
theorem zO8.rf {I : zI} : zO8 I I := fun _ _ => rfl
theorem zO7.tr {I J K : zI} (h : zO7 I J) (h2 : zO7 J K) : zO7 I K := fun c hc => (h2 c hc).trans (h c hc)
theorem zO8.tr {I J K : zI} (h : zO8 I J) (h2 : zO8 J K) : zO8 I K := fun c hc => (h2 c hc).trans (h c hc)
theorem zO7.up {I : zI} {c s : Nat} {v : Int32} (h : c < 50) : zO7 I (zup I c s v) := fun a ha => zup_ne (by omega)
theorem zO8.up {I : zI} {c s : Nat} {v : Int32} (h : 50 ≤ c) : zO8 I (zup I c s v) := fun a ha => zup_ne (by omega)
theorem zRel.left {I J I' : zI} (h : zRel I J) (hI : ∀ c, c < 50 → I' c = I c) : zRel I' J :=
  zRel_world h (zRw_congr h.1 (fun c _ h2 => hI c (by omega)) rfl) (fun c s hc => by rw [hI c (by unfold zcX at hc; omega)]) (fun _ _ _ => rfl)
theorem zRel.right {I J J' : zI} (h : zRel I J) (hJ : ∀ c, 50 ≤ c → J' c = J c) : zRel I J' :=
  zRel_world h (zRw_congr h.1 (fun _ _ _ => rfl) (hJ 51 (by omega))) (fun _ _ _ => rfl) (fun c s hc => by rw [hJ c (by unfold zcY at hc; omega)])
theorem zq_II {ρ : Type} {f7 f8 : zI → Option (ρ × zI)} (hQ : ∀ I J, zRel I J → ∃ r I' J', f7 I = some (r, I') ∧ f8 J = some (r, J') ∧ zRel I' J' ∧ zO7 I I' ∧ zO8 J J') (I : zI) (h : zRel I I) : ∃ r I1 I2, f7 I = some (r, I1) ∧ f8 I1 = some (r, I2) ∧ zRel I2 I2 := by
  obtain ⟨r, I1, J1, a1, -, -, a4, -⟩ := hQ I I h
  obtain ⟨r2, I2, J2, b1, b2, b3, b4, b5⟩ := hQ I I1 (h.right a4)
  cases a1.symm.trans b1
  exact ⟨r, I1, J2, a1, b2, b3.left b5⟩
theorem zq_00 {ρ : Type} {f7 f8 : zI → Option ρ} (hQ : ∀ I J, zRel I J → ∃ r, f7 I = some r ∧ f8 J = some r) (I : zI) (h : zRel I I) : ∃ r, f7 I = some r ∧ f8 I = some r ∧ zRel I I := by
  obtain ⟨r, a1, a2⟩ := hQ I I h
  exact ⟨r, a1, a2, h⟩
theorem zq_LI {ρ : Type} {f7 : zI → zL → Option (ρ × zI × zL)} {f8 : zI → Option (ρ × zI)} (hQ : ∀ I J L, zRel I J → ∃ r I' L' J', f7 I L = some (r, I', L') ∧ f8 J = some (r, J') ∧ zRel I' J' ∧ zO7 I I' ∧ zO8 J J') (I : zI) (L : zL) (h : zRel I I) : ∃ r I1 L1 I2, f7 I L = some (r, I1, L1) ∧ f8 I1 = some (r, I2) ∧ zRel I2 I2 := by
  obtain ⟨r, I1, L1, J1, a1, -, -, a4, -⟩ := hQ I I L h
  obtain ⟨r2, I2, L2, J2, b1, b2, b3, b4, b5⟩ := hQ I I1 L (h.right a4)
  cases a1.symm.trans b1
  exact ⟨r, I1, L1, J2, a1, b2, b3.left b5⟩
