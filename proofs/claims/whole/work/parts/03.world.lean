/-! the static world of both systems, and rows over it -/
abbrev zI : Type := Nat → Nat → Int32
abbrev zL : Type := Nat → Nat → Int64
abbrev zT : Type := ClassId × ClassId × ClassId
abbrev zO : Type := Option Value × zI × zL
def zup (I : zI) (c k : Nat) (v : Int32) : zI := fun a => if a = c then upd (I a) k v else I a
def zupL (L : zL) (c k : Nat) (v : Int64) : zL := fun a => if a = c then vp_updL (L a) k v else L a
def zset (I : zI) (c : Nat) (f : Nat → Int32) : zI := fun a => if a = c then f else I a
abbrev zn (j : Int32) : Nat := j.toNatClampNeg
def zg {α : Type} (j : Int32) (n : Nat) (t : Option α) : Option α := if 0 ≤ j ∧ j.toNatClampNeg < n then t else none
def zgb {α : Type} (v : Int32) (t : Option α) : Option α := if v = 0 ∨ v = 1 then t else none
def zd {α : Type} (v : Int32) (t : Option α) : Option α := if v = 0 then none else t
def zdL {α : Type} (v : Int64) (t : Option α) : Option α := if v = 0 then none else t
def zl {α β : Type} (x : α) (f : α → β) : β := f x
def zb {α β : Type} (t : Option α) (k : α → Option β) : Option β := match t with | none => none | some x => k x
def zbs {α β : Type} (t : Option (β ⊕ α)) (k : α → Option β) : Option β := match t with | none => none | some (.inl r) => some r | some (.inr x) => k x
def zit {σ χ : Type} (f : σ → Option (σ ⊕ χ)) : Nat → σ → Option χ
  | 0, _ => none
  | n + 1, s => match f s with | none => none | some (.inl s') => zit f n s' | some (.inr x) => some x
theorem zb_zb {α β γ : Type} (t : Option α) (k : α → Option β) (h : β → Option γ) : zb (zb t k) h = zb t (fun x => zb (k x) h) := by cases t <;> rfl
theorem zb_some {α : Type} (t : Option α) : zb t some = t := by cases t <;> rfl
def zrem (a b : Int32) : Int32 := a - a / b * b
def zremL (a b : Int64) : Int64 := a - a / b * b
def zshl (a b : Int32) : Int32 := a <<< (b &&& 31)
def zshr (a b : Int32) : Int32 := a >>> (b &&& 31)
def zushr (a b : Int32) : Int32 := (a.toUInt32 >>> (b.toUInt32 &&& Int32.toUInt32 31)).toInt32
def zshlL (a : Int64) (b : Int32) : Int64 := a <<< (b.toInt64 &&& 63)
def zshrL (a : Int64) (b : Int32) : Int64 := a >>> (b.toInt64 &&& 63)
def zushrL (a : Int64) (b : Int32) : Int64 := (a.toUInt64 >>> (b.toInt64.toUInt64 &&& Int64.toUInt64 63)).toInt64

def zf_X1 (ad : Nat → Nat) (i : Nat) (f : Nat → Int32) : List Value := [.ref (ad (i + 1)), .ref (ad (i + 2)), .ref (ad (i + 3)), .ref (ad (i + 4))]
def zf_X2 (ad : Nat → Nat) (i : Nat) (f : Nat → Int32) : List Value := [.int (f 0), .int (f 1), .ref (ad (i + 1))]
def zf_X3 (ad : Nat → Nat) (i : Nat) (f : Nat → Int32) : List Value := [.ref (ad (i + 1)), .int (f 1), .ref (ad (i + 2)), .ref (ad (i + 3)), .ref (ad (i + 4)), .int (f 5)]
def zf_X4 (ad : Nat → Nat) (i : Nat) (f : Nat → Int32) : List Value := [.ref (ad (33)), .ref (ad (i + 1)), .int (f 2), .int (f 3), .int (f 4), .int (f 5), .int (f 6)]
def zf_X6 (ad : Nat → Nat) (i : Nat) (f : Nat → Int32) : List Value := [.ref (ad (i + 1)), .int (f 1), .int (f 2), .int (f 3), .int (f 4), .ref (ad (i + 2)), .ref (ad (i + 3)), .ref (ad (i + 4)), .int (f 8), .ref (ad (i + 5)), .ref (ad (i + 6)), .int (f 11), .int (f 12), .int (f 13), .ref (ad (i + 7)), .int (f 15), .int (f 16), .ref (ad (i + 8))]
def zf_X7 (ad : Nat → Nat) (i : Nat) (f : Nat → Int32) : List Value := [.ref (ad (1)), .ref (ad (10)), .ref (ad (19)), .int (f 3), .ref (ad (28)), .ref (ad (38)), .ref (ad (40)), .ref (ad (41))]
def zf_X8 (ad : Nat → Nat) (i : Nat) (f : Nat → Int32) : List Value := [.ref (ad (51)), .ref (ad (52)), .ref (ad (53)), .int (f 3), .ref (ad (54)), .int (f 5), .ref (ad (55)), .ref (ad (56)), .ref (ad (57)), .int (f 9), .int (f 10), .int (f 11), .int (f 12), .int (f 13), .int (f 14), .int (f 15), .ref (ad (58)), .ref (ad (59)), .ref (ad (60)), .ref (ad (61))]
def zc (T : zT) (ad : Nat → Nat) (i : Nat) (f : Nat → Int32) (g : Nat → Int64) : va_E := match i with
  | 0 => .inr (5, zf_X7 ad 0 f)
  | 1 => .inr (4, zf_X6 ad 1 f)
  | 2 => .inl (T.1, 8, .inl f)
  | 3 => .inl (T.1, 8, .inl f)
  | 4 => .inl (T.1, 8, .inl f)
  | 5 => .inl (T.1, 8, .inl f)
  | 6 => .inl (T.1, 4, .inl f)
  | 7 => .inl (T.1, 4, .inl f)
  | 8 => .inl (T.1, 60, .inl f)
  | 9 => .inl (T.1, 10, .inl f)
  | 10 => .inr (4, zf_X6 ad 10 f)
  | 11 => .inl (T.1, 8, .inl f)
  | 12 => .inl (T.1, 8, .inl f)
  | 13 => .inl (T.1, 8, .inl f)
  | 14 => .inl (T.1, 8, .inl f)
  | 15 => .inl (T.1, 4, .inl f)
  | 16 => .inl (T.1, 4, .inl f)
  | 17 => .inl (T.1, 60, .inl f)
  | 18 => .inl (T.1, 10, .inl f)
  | 19 => .inr (4, zf_X6 ad 19 f)
  | 20 => .inl (T.1, 8, .inl f)
  | 21 => .inl (T.1, 8, .inl f)
  | 22 => .inl (T.1, 8, .inl f)
  | 23 => .inl (T.1, 8, .inl f)
  | 24 => .inl (T.1, 4, .inl f)
  | 25 => .inl (T.1, 4, .inl f)
  | 26 => .inl (T.1, 60, .inl f)
  | 27 => .inl (T.1, 10, .inl f)
  | 28 => .inr (0, zf_X1 ad 28 f)
  | 29 => .inl (T.2.1, 8, .inr (.inl g))
  | 30 => .inl (T.2.1, 8, .inr (.inl g))
  | 31 => .inl (T.2.1, 8, .inr (.inl g))
  | 32 => .inl (T.1, 8, .inl f)
  | 33 => .inr (2, zf_X3 ad 33 f)
  | 34 => .inl (T.1, 120, .inl f)
  | 35 => .inl (T.1, 120, .inl f)
  | 36 => .inl (T.1, 120, .inl f)
  | 37 => .inl (T.1, 120, .inl f)
  | 38 => .inr (3, zf_X4 ad 38 f)
  | 39 => .inl (T.1, 120, .inl f)
  | 40 => .inl (T.2.2, 4, .inr (.inr (.inr (.inr (fun k => some (ad (42 + 2 * k)))))))
  | 41 => .inl (T.1, 7, .inl f)
  | 42 => .inr (1, zf_X2 ad 42 f)
  | 43 => .inl (T.1, 40, .inl f)
  | 44 => .inr (1, zf_X2 ad 44 f)
  | 45 => .inl (T.1, 40, .inl f)
  | 46 => .inr (1, zf_X2 ad 46 f)
  | 47 => .inl (T.1, 40, .inl f)
  | 48 => .inr (1, zf_X2 ad 48 f)
  | 49 => .inl (T.1, 40, .inl f)
  | 50 => .inr (6, zf_X8 ad 50 f)
  | 51 => .inl (T.1, 120, .inl f)
  | 52 => .inl (T.1, 120, .inl f)
  | 53 => .inl (T.1, 120, .inl f)
  | 54 => .inl (T.1, 120, .inl f)
  | 55 => .inl (T.1, 7, .inl f)
  | 56 => .inl (T.1, 320, .inl f)
  | 57 => .inl (T.1, 320, .inl f)
  | 58 => .inl (T.1, 4, .inl f)
  | 59 => .inl (T.1, 4, .inl f)
  | 60 => .inl (T.1, 160, .inl f)
  | _ => .inl (T.1, 40, .inl f)
def zW (T : zT) (ad : Nat → Nat) (I : zI) (L : zL) : va_W := (List.range 62).map fun i => (ad i, zc T ad i (I i) (L i))
theorem zW_get {T : zT} {ad : Nat → Nat} {I : zI} {L : zL} {i : Nat} (h : i < 62) : (zW T ad I L)[i]? = some (ad i, zc T ad i (I i) (L i)) := by
  unfold zW
  rw [List.getElem?_map, List.getElem?_range h]
  rfl
theorem zW_set {T : zT} {ad : Nat → Nat} {I I' : zI} {L L' : zL} {i : Nat} {e : va_E} (h : i < 62) (he : e = zc T ad i (I' i) (L' i)) (hI : ∀ j, j ≠ i → I' j = I j) (hL : ∀ j, j ≠ i → L' j = L j) : (zW T ad I L).set i (ad i, e) = zW T ad I' L' := by
  subst he
  apply List.ext_getElem?
  intro j
  rw [List.getElem?_set]
  by_cases hj : i = j
  · subst hj
    rw [if_pos rfl, zW_get h]
    have : i < (zW T ad I L).length := by unfold zW; rw [List.length_map, List.length_range]; exact h
    rw [if_pos this]
  · rw [if_neg hj]
    unfold zW
    rw [List.getElem?_map, List.getElem?_map]
    by_cases h2 : j < 62
    · rw [List.getElem?_range h2]
      show some (ad j, zc T ad j (I j) (L j)) = some (ad j, zc T ad j (I' j) (L' j))
      rw [hI j (Ne.symm hj), hL j (Ne.symm hj)]
    · rw [List.getElem?_eq_none (by rw [List.length_range]; omega)]
      rfl
theorem zup_same {I : zI} {c k : Nat} {v : Int32} : zup I c k v c = upd (I c) k v := by unfold zup; rw [if_pos rfl]
theorem zup_ne {I : zI} {c k : Nat} {v : Int32} {j : Nat} (h : j ≠ c) : zup I c k v j = I j := by unfold zup; rw [if_neg h]
theorem zupL_same {I : zL} {c k : Nat} {v : Int64} : zupL I c k v c = vp_updL (I c) k v := by unfold zupL; rw [if_pos rfl]
theorem zupL_ne {I : zL} {c k : Nat} {v : Int64} {j : Nat} (h : j ≠ c) : zupL I c k v j = I j := by unfold zupL; rw [if_neg h]
theorem zset_same {I : zI} {c : Nat} {f : Nat → Int32} : zset I c f c = f := by unfold zset; rw [if_pos rfl]
theorem zset_ne {I : zI} {c : Nat} {f : Nat → Int32} {j : Nat} (h : j ≠ c) : zset I c f j = I j := by unfold zset; rw [if_neg h]
/-- cell c is a row of n ints (longs) -/
def zA (c n : Nat) : Prop := (c < 62 ∧ n < 2 ^ 31) ∧ ∀ (T : zT) (ad : Nat → Nat) (f : Nat → Int32) (g : Nat → Int64), zc T ad c f g = .inl (T.1, n, .inl f)
def zAL (c n : Nat) : Prop := (c < 62 ∧ n < 2 ^ 31) ∧ ∀ (T : zT) (ad : Nat → Nat) (f : Nat → Int32) (g : Nat → Int64), zc T ad c f g = .inl (T.2.1, n, .inr (.inl g))
/-- cell w is an object of the ci-th class -/
def zO_X1 (w : Nat) : Prop := w = 28
def zO_X2 (w : Nat) : Prop := w = 42 ∨ w = 44 ∨ w = 46 ∨ w = 48
def zO_X3 (w : Nat) : Prop := w = 33
def zO_X4 (w : Nat) : Prop := w = 38
def zO_X6 (w : Nat) : Prop := w = 1 ∨ w = 10 ∨ w = 19
def zO_X7 (w : Nat) : Prop := w = 0
def zO_X8 (w : Nat) : Prop := w = 50
def zRow (w : Nat) : Prop := w = 51 ∨ w = 52 ∨ w = 53
theorem zA_row {w : Nat} (h : zRow w) : zA w 120 := by rcases h with rfl | rfl | rfl <;> exact ⟨⟨by decide, by decide⟩, fun _ _ _ _ => rfl⟩
theorem zW_X1 {T : zT} {ad : Nat → Nat} {I : zI} {L : zL} {w : Nat} (h : zO_X1 w) : (zW T ad I L)[w]? = some (ad w, .inr (0, zf_X1 ad w (I w))) := by
  cases h; exact zW_get (by decide)
theorem zWs_X1 {T : zT} {ad : Nat → Nat} {I I' : zI} {L L' : zL} {w : Nat} {fs : List Value} (h : zO_X1 w) (hf : fs = zf_X1 ad w (I' w)) (hI : ∀ j, j ≠ w → I' j = I j) (hL : ∀ j, j ≠ w → L' j = L j) : (zW T ad I L).set w (ad w, .inr (0, fs)) = zW T ad I' L' := by
  subst hf
  cases h; exact zW_set (by decide) rfl hI hL
theorem zW_X2 {T : zT} {ad : Nat → Nat} {I : zI} {L : zL} {w : Nat} (h : zO_X2 w) : (zW T ad I L)[w]? = some (ad w, .inr (1, zf_X2 ad w (I w))) := by
  rcases h with rfl | rfl | rfl | rfl <;> exact zW_get (by decide)
theorem zWs_X2 {T : zT} {ad : Nat → Nat} {I I' : zI} {L L' : zL} {w : Nat} {fs : List Value} (h : zO_X2 w) (hf : fs = zf_X2 ad w (I' w)) (hI : ∀ j, j ≠ w → I' j = I j) (hL : ∀ j, j ≠ w → L' j = L j) : (zW T ad I L).set w (ad w, .inr (1, fs)) = zW T ad I' L' := by
  subst hf
  rcases h with rfl | rfl | rfl | rfl <;> exact zW_set (by decide) rfl hI hL
theorem zW_X3 {T : zT} {ad : Nat → Nat} {I : zI} {L : zL} {w : Nat} (h : zO_X3 w) : (zW T ad I L)[w]? = some (ad w, .inr (2, zf_X3 ad w (I w))) := by
  cases h; exact zW_get (by decide)
theorem zWs_X3 {T : zT} {ad : Nat → Nat} {I I' : zI} {L L' : zL} {w : Nat} {fs : List Value} (h : zO_X3 w) (hf : fs = zf_X3 ad w (I' w)) (hI : ∀ j, j ≠ w → I' j = I j) (hL : ∀ j, j ≠ w → L' j = L j) : (zW T ad I L).set w (ad w, .inr (2, fs)) = zW T ad I' L' := by
  subst hf
  cases h; exact zW_set (by decide) rfl hI hL
theorem zW_X4 {T : zT} {ad : Nat → Nat} {I : zI} {L : zL} {w : Nat} (h : zO_X4 w) : (zW T ad I L)[w]? = some (ad w, .inr (3, zf_X4 ad w (I w))) := by
  cases h; exact zW_get (by decide)
theorem zWs_X4 {T : zT} {ad : Nat → Nat} {I I' : zI} {L L' : zL} {w : Nat} {fs : List Value} (h : zO_X4 w) (hf : fs = zf_X4 ad w (I' w)) (hI : ∀ j, j ≠ w → I' j = I j) (hL : ∀ j, j ≠ w → L' j = L j) : (zW T ad I L).set w (ad w, .inr (3, fs)) = zW T ad I' L' := by
  subst hf
  cases h; exact zW_set (by decide) rfl hI hL
theorem zW_X6 {T : zT} {ad : Nat → Nat} {I : zI} {L : zL} {w : Nat} (h : zO_X6 w) : (zW T ad I L)[w]? = some (ad w, .inr (4, zf_X6 ad w (I w))) := by
  rcases h with rfl | rfl | rfl <;> exact zW_get (by decide)
theorem zWs_X6 {T : zT} {ad : Nat → Nat} {I I' : zI} {L L' : zL} {w : Nat} {fs : List Value} (h : zO_X6 w) (hf : fs = zf_X6 ad w (I' w)) (hI : ∀ j, j ≠ w → I' j = I j) (hL : ∀ j, j ≠ w → L' j = L j) : (zW T ad I L).set w (ad w, .inr (4, fs)) = zW T ad I' L' := by
  subst hf
  rcases h with rfl | rfl | rfl <;> exact zW_set (by decide) rfl hI hL
theorem zW_X7 {T : zT} {ad : Nat → Nat} {I : zI} {L : zL} {w : Nat} (h : zO_X7 w) : (zW T ad I L)[w]? = some (ad w, .inr (5, zf_X7 ad w (I w))) := by
  cases h; exact zW_get (by decide)
theorem zWs_X7 {T : zT} {ad : Nat → Nat} {I I' : zI} {L L' : zL} {w : Nat} {fs : List Value} (h : zO_X7 w) (hf : fs = zf_X7 ad w (I' w)) (hI : ∀ j, j ≠ w → I' j = I j) (hL : ∀ j, j ≠ w → L' j = L j) : (zW T ad I L).set w (ad w, .inr (5, fs)) = zW T ad I' L' := by
  subst hf
  cases h; exact zW_set (by decide) rfl hI hL
theorem zW_X8 {T : zT} {ad : Nat → Nat} {I : zI} {L : zL} {w : Nat} (h : zO_X8 w) : (zW T ad I L)[w]? = some (ad w, .inr (6, zf_X8 ad w (I w))) := by
  cases h; exact zW_get (by decide)
theorem zWs_X8 {T : zT} {ad : Nat → Nat} {I I' : zI} {L L' : zL} {w : Nat} {fs : List Value} (h : zO_X8 w) (hf : fs = zf_X8 ad w (I' w)) (hI : ∀ j, j ≠ w → I' j = I j) (hL : ∀ j, j ≠ w → L' j = L j) : (zW T ad I L).set w (ad w, .inr (6, fs)) = zW T ad I' L' := by
  subst hf
  cases h; exact zW_set (by decide) rfl hI hL
theorem zA_X6_1 {w : Nat} (h : zO_X6 w) : zA (w + 1) 8 := by rcases h with rfl | rfl | rfl <;> exact ⟨⟨by decide, by decide⟩, fun _ _ _ _ => rfl⟩
theorem zA_X6_2 {w : Nat} (h : zO_X6 w) : zA (w + 2) 8 := by rcases h with rfl | rfl | rfl <;> exact ⟨⟨by decide, by decide⟩, fun _ _ _ _ => rfl⟩
theorem zA_X6_3 {w : Nat} (h : zO_X6 w) : zA (w + 3) 8 := by rcases h with rfl | rfl | rfl <;> exact ⟨⟨by decide, by decide⟩, fun _ _ _ _ => rfl⟩
theorem zA_X6_4 {w : Nat} (h : zO_X6 w) : zA (w + 4) 8 := by rcases h with rfl | rfl | rfl <;> exact ⟨⟨by decide, by decide⟩, fun _ _ _ _ => rfl⟩
theorem zA_X6_5 {w : Nat} (h : zO_X6 w) : zA (w + 5) 4 := by rcases h with rfl | rfl | rfl <;> exact ⟨⟨by decide, by decide⟩, fun _ _ _ _ => rfl⟩
theorem zA_X6_6 {w : Nat} (h : zO_X6 w) : zA (w + 6) 4 := by rcases h with rfl | rfl | rfl <;> exact ⟨⟨by decide, by decide⟩, fun _ _ _ _ => rfl⟩
theorem zA_X6_7 {w : Nat} (h : zO_X6 w) : zA (w + 7) 60 := by rcases h with rfl | rfl | rfl <;> exact ⟨⟨by decide, by decide⟩, fun _ _ _ _ => rfl⟩
theorem zA_X6_8 {w : Nat} (h : zO_X6 w) : zA (w + 8) 10 := by rcases h with rfl | rfl | rfl <;> exact ⟨⟨by decide, by decide⟩, fun _ _ _ _ => rfl⟩
theorem zA_X2_1 {w : Nat} (h : zO_X2 w) : zA (w + 1) 40 := by rcases h with rfl | rfl | rfl | rfl <;> exact ⟨⟨by decide, by decide⟩, fun _ _ _ _ => rfl⟩
theorem zA_X1_1 {w : Nat} (h : zO_X1 w) : zAL (w + 1) 8 := by cases h; exact ⟨⟨by decide, by decide⟩, fun _ _ _ _ => rfl⟩
theorem zA_X1_2 {w : Nat} (h : zO_X1 w) : zAL (w + 2) 8 := by cases h; exact ⟨⟨by decide, by decide⟩, fun _ _ _ _ => rfl⟩
theorem zA_X1_3 {w : Nat} (h : zO_X1 w) : zAL (w + 3) 8 := by cases h; exact ⟨⟨by decide, by decide⟩, fun _ _ _ _ => rfl⟩
theorem zA_X1_4 {w : Nat} (h : zO_X1 w) : zA (w + 4) 8 := by cases h; exact ⟨⟨by decide, by decide⟩, fun _ _ _ _ => rfl⟩
theorem zA_2 : zA 2 8 := ⟨⟨by decide, by decide⟩, fun _ _ _ _ => rfl⟩
theorem zA_3 : zA 3 8 := ⟨⟨by decide, by decide⟩, fun _ _ _ _ => rfl⟩
theorem zA_4 : zA 4 8 := ⟨⟨by decide, by decide⟩, fun _ _ _ _ => rfl⟩
theorem zA_5 : zA 5 8 := ⟨⟨by decide, by decide⟩, fun _ _ _ _ => rfl⟩
theorem zA_6 : zA 6 4 := ⟨⟨by decide, by decide⟩, fun _ _ _ _ => rfl⟩
theorem zA_7 : zA 7 4 := ⟨⟨by decide, by decide⟩, fun _ _ _ _ => rfl⟩
theorem zA_8 : zA 8 60 := ⟨⟨by decide, by decide⟩, fun _ _ _ _ => rfl⟩
theorem zA_9 : zA 9 10 := ⟨⟨by decide, by decide⟩, fun _ _ _ _ => rfl⟩
theorem zA_11 : zA 11 8 := ⟨⟨by decide, by decide⟩, fun _ _ _ _ => rfl⟩
theorem zA_12 : zA 12 8 := ⟨⟨by decide, by decide⟩, fun _ _ _ _ => rfl⟩
theorem zA_13 : zA 13 8 := ⟨⟨by decide, by decide⟩, fun _ _ _ _ => rfl⟩
theorem zA_14 : zA 14 8 := ⟨⟨by decide, by decide⟩, fun _ _ _ _ => rfl⟩
theorem zA_15 : zA 15 4 := ⟨⟨by decide, by decide⟩, fun _ _ _ _ => rfl⟩
theorem zA_16 : zA 16 4 := ⟨⟨by decide, by decide⟩, fun _ _ _ _ => rfl⟩
theorem zA_17 : zA 17 60 := ⟨⟨by decide, by decide⟩, fun _ _ _ _ => rfl⟩
theorem zA_18 : zA 18 10 := ⟨⟨by decide, by decide⟩, fun _ _ _ _ => rfl⟩
theorem zA_20 : zA 20 8 := ⟨⟨by decide, by decide⟩, fun _ _ _ _ => rfl⟩
theorem zA_21 : zA 21 8 := ⟨⟨by decide, by decide⟩, fun _ _ _ _ => rfl⟩
theorem zA_22 : zA 22 8 := ⟨⟨by decide, by decide⟩, fun _ _ _ _ => rfl⟩
theorem zA_23 : zA 23 8 := ⟨⟨by decide, by decide⟩, fun _ _ _ _ => rfl⟩
theorem zA_24 : zA 24 4 := ⟨⟨by decide, by decide⟩, fun _ _ _ _ => rfl⟩
theorem zA_25 : zA 25 4 := ⟨⟨by decide, by decide⟩, fun _ _ _ _ => rfl⟩
theorem zA_26 : zA 26 60 := ⟨⟨by decide, by decide⟩, fun _ _ _ _ => rfl⟩
theorem zA_27 : zA 27 10 := ⟨⟨by decide, by decide⟩, fun _ _ _ _ => rfl⟩
theorem zA_29 : zAL 29 8 := ⟨⟨by decide, by decide⟩, fun _ _ _ _ => rfl⟩
theorem zA_30 : zAL 30 8 := ⟨⟨by decide, by decide⟩, fun _ _ _ _ => rfl⟩
theorem zA_31 : zAL 31 8 := ⟨⟨by decide, by decide⟩, fun _ _ _ _ => rfl⟩
theorem zA_32 : zA 32 8 := ⟨⟨by decide, by decide⟩, fun _ _ _ _ => rfl⟩
theorem zA_34 : zA 34 120 := ⟨⟨by decide, by decide⟩, fun _ _ _ _ => rfl⟩
theorem zA_35 : zA 35 120 := ⟨⟨by decide, by decide⟩, fun _ _ _ _ => rfl⟩
theorem zA_36 : zA 36 120 := ⟨⟨by decide, by decide⟩, fun _ _ _ _ => rfl⟩
theorem zA_37 : zA 37 120 := ⟨⟨by decide, by decide⟩, fun _ _ _ _ => rfl⟩
theorem zA_39 : zA 39 120 := ⟨⟨by decide, by decide⟩, fun _ _ _ _ => rfl⟩
theorem zA_41 : zA 41 7 := ⟨⟨by decide, by decide⟩, fun _ _ _ _ => rfl⟩
theorem zA_43 : zA 43 40 := ⟨⟨by decide, by decide⟩, fun _ _ _ _ => rfl⟩
theorem zA_45 : zA 45 40 := ⟨⟨by decide, by decide⟩, fun _ _ _ _ => rfl⟩
theorem zA_47 : zA 47 40 := ⟨⟨by decide, by decide⟩, fun _ _ _ _ => rfl⟩
theorem zA_49 : zA 49 40 := ⟨⟨by decide, by decide⟩, fun _ _ _ _ => rfl⟩
theorem zA_51 : zA 51 120 := ⟨⟨by decide, by decide⟩, fun _ _ _ _ => rfl⟩
theorem zA_52 : zA 52 120 := ⟨⟨by decide, by decide⟩, fun _ _ _ _ => rfl⟩
theorem zA_53 : zA 53 120 := ⟨⟨by decide, by decide⟩, fun _ _ _ _ => rfl⟩
theorem zA_54 : zA 54 120 := ⟨⟨by decide, by decide⟩, fun _ _ _ _ => rfl⟩
theorem zA_55 : zA 55 7 := ⟨⟨by decide, by decide⟩, fun _ _ _ _ => rfl⟩
theorem zA_56 : zA 56 320 := ⟨⟨by decide, by decide⟩, fun _ _ _ _ => rfl⟩
theorem zA_57 : zA 57 320 := ⟨⟨by decide, by decide⟩, fun _ _ _ _ => rfl⟩
theorem zA_58 : zA 58 4 := ⟨⟨by decide, by decide⟩, fun _ _ _ _ => rfl⟩
theorem zA_59 : zA 59 4 := ⟨⟨by decide, by decide⟩, fun _ _ _ _ => rfl⟩
theorem zA_60 : zA 60 160 := ⟨⟨by decide, by decide⟩, fun _ _ _ _ => rfl⟩
theorem zA_61 : zA 61 40 := ⟨⟨by decide, by decide⟩, fun _ _ _ _ => rfl⟩
theorem zS_of {k : Nat} (h : k < 4) : zO_X2 (42 + 2 * k) := by
  rcases (show k = 0 ∨ k = 1 ∨ k = 2 ∨ k = 3 by omega) with rfl | rfl | rfl | rfl
  · exact Or.inl rfl
  · exact Or.inr (Or.inl rfl)
  · exact Or.inr (Or.inr (Or.inl rfl))
  · exact Or.inr (Or.inr (Or.inr rfl))
/-- the addresses of the cells -/
def zAd (ad : Nat → Nat) : Addr → Prop := fun q => ∃ i, i < 62 ∧ q = ad i
def zInj (ad : Nat → Nat) : Prop := ∀ i j, i < 62 → j < 62 → ad i = ad j → i = j
theorem zW_lt {T : zT} {ad : Nat → Nat} {I : zI} {L : zL} {i : Nat} {q : Nat × va_E} (h : (zW T ad I L)[i]? = some q) : i < 62 ∧ q.1 = ad i := by
  have h1 : i < 62 := by
    have := (List.getElem?_eq_some_iff.mp h).1
    unfold zW at this
    rwa [List.length_map, List.length_range] at this
  rw [zW_get h1] at h
  cases h
  exact ⟨h1, rfl⟩
theorem zW_D {T : zT} {ad : Nat → Nat} {I : zI} {L : zL} (hi : zInj ad) : va_D (zAd ad) (zW T ad I L) := by
  refine ⟨fun i j p q hp hq e => ?_, fun k q hq => ⟨k, (zW_lt hq).1, (zW_lt hq).2⟩⟩
  obtain ⟨h1, e1⟩ := zW_lt hp
  obtain ⟨h2, e2⟩ := zW_lt hq
  exact hi i j h1 h2 (by rw [← e1, ← e2]; exact e)

