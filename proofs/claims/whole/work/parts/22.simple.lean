/-! rooms, things, people -/
theorem zlt_bits : ∀ d : Nat, d < 256 → ∀ b : Nat, b < 8 → (0 ≤ (nI d &&& (zshl 1 (nI b) ^^^ (-1))).toInt ∧ (nI d &&& (zshl 1 (nI b) ^^^ (-1))).toInt < 256) ∧ (0 ≤ (nI d ||| zshl 1 (nI b)).toInt ∧ (nI d ||| zshl 1 (nI b)).toInt < 256) := by decide +kernel
theorem zlt_of {n : Nat} {a : Int32} (hn : n < 2 ^ 31) (h : 0 ≤ a.toInt ∧ a.toInt < n) : zlt n a := by
  rw [← zlt_bt (b := 0) (e := (n : Int) - 1) hn rfl rfl]
  exact ⟨h.1, by omega⟩
theorem zlt_and {d b : Int32} (hd : zlt 256 d) (hb : zlt 8 b) : zlt 256 (d &&& (zshl 1 b ^^^ (-1))) := by
  obtain ⟨d, h1, rfl⟩ := hd
  obtain ⟨b, h2, rfl⟩ := hb
  exact zlt_of (by decide) (zlt_bits d h1 b h2).1
theorem zlt_or {d b : Int32} (hd : zlt 256 d) (hb : zlt 8 b) : zlt 256 (d ||| zshl 1 b) := by
  obtain ⟨d, h1, rfl⟩ := hd
  obtain ⟨b, h2, rfl⟩ := hb
  exact zlt_of (by decide) (zlt_bits d h1 b h2).2
theorem z0 (i : Nat) : (0 : Int32) + nI i = nI i := Int32.zero_add _
theorem zok_door {k : Nat} {x : Int32} (hk : k < 8) : zok k x = zlt 256 x := by unfold zok; rw [if_pos hk]
/-- a door is looked at -/
theorem isOpen6 {w : Nat} {I J : zI} (h : zRw w I J) {a : Nat} (ha : a < 8) (b : Int32) : fX6_isOpen w (nI a) b I = some (zp ((zshr (J 51 a) b) &&& 1 = 1)) := by
  unfold fX6_isOpen
  rw [zg_k _ ha, zn_k (by omega), h.door ha]
  by_cases q : (zshr (J 51 a) b) &&& 1 = 1
  · rw [if_pos q, zp_t q]
  · rw [if_neg q, zp_f q]
theorem isOpen8 {J : zI} {a : Nat} (ha : a < 8) (b : Int32) : fX8_isOpen (nI a) b J = some (zp ((zshr (J 51 a) b) &&& 1 = 1)) := by
  unfold fX8_isOpen
  rw [z0, zg_k _ (show a < 120 by omega), zn_k (by omega)]
  by_cases q : (zshr (J 51 a) b) &&& 1 = 1
  · rw [if_pos q, zp_t q]
  · rw [if_neg q, zp_f q]
/-- what a pair of doors becomes -/
def zdr (v : Int32) (d b : Int32) : Int32 := if v = 0 then d &&& (zshl 1 b ^^^ (-1)) else d ||| zshl 1 b
theorem zdr_lt {v d b : Int32} (hd : zlt 256 d) (hb : zlt 8 b) : zlt 256 (zdr v d b) := by
  unfold zdr
  by_cases q : v = 0
  · rw [if_pos q]; exact zlt_and hd hb
  · rw [if_neg q]; exact zlt_or hd hb
theorem setDoor6 {w : Nat} {I : zI} {a b : Nat} (ha : a < 8) (hb : b < 8) (v : Int32) : fX6_setDoor w (nI a) (nI b) v I = some (zup (zup I (w + 1) a (zdr v (I (w + 1) a) (nI b))) (w + 1) b (zdr v (zup I (w + 1) a (zdr v (I (w + 1) a) (nI b)) (w + 1) b) (nI a))) := by
  unfold fX6_setDoor zdr
  by_cases q : v = 0
  · rw [if_pos q, if_pos q, if_pos q]
    simp only [zg_k _ ha, zg_k _ hb, zl_s, zn_k (show a < 2 ^ 31 by omega), zn_k (show b < 2 ^ 31 by omega)]
  · rw [if_neg q, if_neg q, if_neg q]
    simp only [zg_k _ ha, zg_k _ hb, zl_s, zn_k (show a < 2 ^ 31 by omega), zn_k (show b < 2 ^ 31 by omega)]
theorem opensDoor8 {J : zI} {a b : Nat} (ha : a < 8) (hb : b < 8) (v : Int32) : fX8_opensDoor (nI a) (nI b) v J = some (zup (zup J 51 a (zdr v (J 51 a) (nI b))) 51 b (zdr v (zup J 51 a (zdr v (J 51 a) (nI b)) 51 b) (nI a))) := by
  unfold fX8_opensDoor zdr
  have h1 : a < 120 := by omega
  have h2 : b < 120 := by omega
  by_cases q : v = 0
  · simp only [q, ↓reduceIte, z0, zg_k _ h1, zg_k _ h2, zb_s, zl_s, zn_k (show a < 2 ^ 31 by omega), zn_k (show b < 2 ^ 31 by omega)]
  · simp only [q, ↓reduceIte, z0, zg_k _ h1, zg_k _ h2, zb_s, zl_s, zn_k (show a < 2 ^ 31 by omega), zn_k (show b < 2 ^ 31 by omega)]
theorem zRw_door {w : Nat} {I J : zI} (h : zRw w I J) {a b : Nat} (ha : a < 8) (hb : b < 8) (v : Int32) : zRw w (zup (zup I (w + 1) a (zdr v (I (w + 1) a) (nI b))) (w + 1) b (zdr v (zup I (w + 1) a (zdr v (I (w + 1) a) (nI b)) (w + 1) b) (nI a))) (zup (zup J 51 a (zdr v (J 51 a) (nI b))) 51 b (zdr v (zup J 51 a (zdr v (J 51 a) (nI b)) 51 b) (nI a))) := by
  have h1 : zRw w (zup I (w + 1) a (zdr v (I (w + 1) a) (nI b))) (zup J 51 a (zdr v (J 51 a) (nI b))) := by
    rw [h.door ha]
    refine zRw_up h (by omega) (by unfold zcm; rw [if_pos ha]) ?_ (by omega)
    rw [zok_door ha]
    exact zdr_lt (h.2.door ha) ⟨b, hb, rfl⟩
  rw [h1.door hb]
  refine zRw_up h1 (by omega) (by unfold zcm; rw [if_pos hb]) ?_ (by omega)
  rw [zok_door hb]
  exact zdr_lt (h1.2.door hb) ⟨a, ha, rfl⟩
/-- Rel after writes into the world alone -/
theorem zRel_w {I J I' J' : zI} (h : zRel I J) (hw : zRw 1 I' J') (hI : ∀ c, ¬ (1 ≤ c ∧ c ≤ 9) → I' c = I c) (hJ : ∀ c, c ≠ 51 → J' c = J c) : zRel I' J' ∧ zO7 I I' ∧ zO8 J J' :=
  ⟨zRel_world h hw (fun c s hc => by rw [hI c (by unfold zcX at hc; omega)]) (fun c s hc => by rw [hJ c (by unfold zcY at hc; omega)]), fun c hc => hI c (by omega), fun c hc => hJ c (by omega)⟩
theorem q_door (a b v : Int32) (I J : zI) (h : zRel I J) : ∃ r I' J', fX7_door a b v I = some (r, I') ∧ fX8_door a b v J = some (r, J') ∧ zRel I' J' ∧ zO7 I I' ∧ zO8 J J' := by
  unfold fX7_door fX8_door
  simp only [room7, room8, within7, within8I, zb_s, zif]
  by_cases ha : ¬ zlt 8 a
  · simp only [zite_f ha]; exact fin_leaf h 0
  replace ha := Classical.not_not.mp ha
  simp only [zite_t ha]
  by_cases hb : ¬ zlt 8 b
  · simp only [zite_f hb]; exact fin_leaf h 0
  replace hb := Classical.not_not.mp hb
  simp only [zite_t hb]
  by_cases hab : a = b
  · simp only [hab, ↓reduceIte]; exact fin_leaf h 0
  simp only [hab, ↓reduceIte]
  rw [show Int32.toInt 0 = 0 from rfl, show Int32.toInt 1 = 1 from rfl, show Int64.toInt 0 = 0 from rfl, show Int64.toInt 1 = 1 from rfl]
  by_cases hv : ¬ zbt 0 1 v
  · simp only [zite_f hv]; exact fin_leaf h 0
  replace hv := Classical.not_not.mp hv
  simp only [zite_t hv]
  obtain ⟨a, ha, rfl⟩ := ha
  obtain ⟨b, hb, rfl⟩ := hb
  simp only [isOpen6 h.1 ha, isOpen8 ha, setDoor6 ha hb, opensDoor8 ha hb, zb_s, zif]
  have hw := fun v => zRel_w h (zRw_door h.1 ha hb v) (fun c hc => by rw [zup_ne (by omega), zup_ne (by omega)]) (fun c hc => by rw [zup_ne hc, zup_ne hc])
  by_cases q2 : zshr (J 51 a) (nI b) &&& 1 = 1
  · simp only [zite_t q2, zb_s]
    by_cases q : v = 1
    · simp only [q, ↓reduceIte]
      exact ⟨_, _, _, rfl, rfl, hw 1⟩
    · simp only [q, ↓reduceIte]
      exact ⟨_, _, _, rfl, rfl, hw 0⟩
  · simp only [zite_f q2, zb_s]
    by_cases q : v = 1
    · simp only [q, ↓reduceIte]
      exact ⟨_, _, _, rfl, rfl, hw 1⟩
    · simp only [q, ↓reduceIte]
      exact ⟨_, _, _, rfl, rfl, hw 0⟩
