/-! rooms, things, people -/
theorem zlt_bits : ∀ d : Nat, d < 256 → ∀ b : Nat, b < 8 → (0 ≤ (nI d &&& (zshl 1 (nI b) ^^^ (-1))).toInt ∧ (nI d &&& (zshl 1 (nI b) ^^^ (-1))).toInt < 256) ∧ (0 ≤ (nI d ||| zshl 1 (nI b)).toInt ∧ (nI d ||| zshl 1 (nI b)).toInt < 256) := by decide +kernel
theorem zlt_of {n : Nat} {a : Int32} (hn : n < 2 ^ 31) (h : 0 ≤ a.toInt ∧ a.toInt < n) : zlt n a := by
  rw [← zlt_bt (b := 0) (e := (n : Int) - 1) hn rfl rfl]
  exact ⟨h.1, by omega⟩
theorem zlt_and {d b : Int32} (hd : zlt 256 d) (hb : zlt 8 b) : zlt 256 (d &&& (zshl 1 b ^^^ (-1))) := by
  obtain ⟨d, h1, rfl⟩ := hd
  obtain ⟨b, h2, rfl⟩ := hb
  exact zlt_of (by decide) (zlt_bits d h1 b h2).1
theorem zlt_or {d b : Int32} (hd : zlt 256 d) (hb : zlt 8 b) : zlt 256 (d ||| zshl 1 b) := by
  obtain ⟨d, h1, rfl⟩ := hd
  obtain ⟨b, h2, rfl⟩ := hb
  exact zlt_of (by decide) (zlt_bits d h1 b h2).2
theorem z0 (i : Nat) : (0 : Int32) + nI i = nI i := Int32.zero_add _
theorem zok_door {k : Nat} {x : Int32} (hk : k < 8) : zok k x = zlt 256 x := by unfold zok; rw [if_pos hk]
/-- a door is looked at -/
theorem isOpen6 {w : Nat} {I J : zI} (h : zRw w I J) {a : Nat} (ha : a < 8) (b : Int32) : fX6_isOpen w (nI a) b I = some (zp ((zshr (J 51 a) b) &&& 1 = 1)) := by
  unfold fX6_isOpen
  rw [zg_k _ ha, zn_k (by omega), h.door ha]
  by_cases q : (zshr (J 51 a) b) &&& 1 = 1
  · rw [if_pos q, zp_t q]
  · rw [if_neg q, zp_f q]
theorem isOpen8 {J : zI} {a : Nat} (ha : a < 8) (b : Int32) : fX8_isOpen (nI a) b J = some (zp ((zshr (J 51 a) b) &&& 1 = 1)) := by
  unfold fX8_isOpen
  rw [z0, zg_k _ (show a < 120 by omega), zn_k (by omega)]
  by_cases q : (zshr (J 51 a) b) &&& 1 = 1
  · rw [if_pos q, zp_t q]
  · rw [if_neg q, zp_f q]
/-- what a pair of doors becomes -/
def zdr (v : Int32) (d b : Int32) : Int32 := if v = 0 then d &&& (zshl 1 b ^^^ (-1)) else d ||| zshl 1 b
theorem zdr_lt {v d b : Int32} (hd : zlt 256 d) (hb : zlt 8 b) : zlt 256 (zdr v d b) := by
  unfold zdr
  by_cases q : v = 0
  · rw [if_pos q]; exact zlt_and hd hb
  · rw [if_neg q]; exact zlt_or hd hb
theorem setDoor6 {w : Nat} {I : zI} {a b : Nat} (ha : a < 8) (hb : b < 8) (v : Int32) : fX6_setDoor w (nI a) (nI b) v I = some (zup (zup I (w + 1) a (zdr v (I (w + 1) a) (nI b))) (w + 1) b (zdr v (zup I (w + 1) a (zdr v (I (w + 1) a) (nI b)) (w + 1) b) (nI a))) := by
  unfold fX6_setDoor zdr
  by_cases q : v = 0
  · rw [if_pos q, if_pos q, if_pos q]
    simp only [zg_k _ ha, zg_k _ hb, zl_s, zn_k (show a < 2 ^ 31 by omega), zn_k (show b < 2 ^ 31 by omega)]
  · rw [if_neg q, if_neg q, if_neg q]
    simp only [zg_k _ ha, zg_k _ hb, zl_s, zn_k (show a < 2 ^ 31 by omega), zn_k (show b < 2 ^ 31 by omega)]
theorem opensDoor8 {J : zI} {a b : Nat} (ha : a < 8) (hb : b < 8) (v : Int32) : fX8_opensDoor (nI a) (nI b) v J = some (zup (zup J 51 a (zdr v (J 51 a) (nI b))) 51 b (zdr v (zup J 51 a (zdr v (J 51 a) (nI b)) 51 b) (nI a))) := by
  unfold fX8_opensDoor zdr
  have h1 : a < 120 := by omega
  have h2 : b < 120 := by omega
  by_cases q : v = 0
  · simp only [q, ↓reduceIte, z0, zg_k _ h1, zg_k _ h2, zb_s, zl_s, zn_k (show a < 2 ^ 31 by omega), zn_k (show b < 2 ^ 31 by omega)]
  · simp only [q, ↓reduceIte, z0, zg_k _ h1, zg_k _ h2, zb_s, zl_s, zn_k (show a < 2 ^ 31 by omega), zn_k (show b < 2 ^ 31 by omega)]
theorem zdr_bits : ∀ d : Nat, d < 256 → ∀ b : Nat, b < 8 → ∀ c : Nat, c < 8 → zshr (nI d &&& (zshl 1 (nI b) ^^^ (-1))) (nI c) &&& 1 = (if c = b then 0 else zshr (nI d) (nI c) &&& 1) ∧ zshr (nI d ||| zshl 1 (nI b)) (nI c) &&& 1 = (if c = b then 1 else zshr (nI d) (nI c) &&& 1) := by decide +kernel
theorem zdr_bit {v d : Int32} {b c : Nat} (hd : zlt 256 d) (hb : b < 8) (hc : c < 8) : zshr (zdr v d (nI b)) (nI c) &&& 1 = if c = b then (if v = 0 then 0 else 1) else zshr d (nI c) &&& 1 := by
  obtain ⟨d, h1, rfl⟩ := hd
  unfold zdr
  by_cases q : v = 0
  · rw [if_pos q, if_pos q]; exact (zdr_bits d h1 b hb c hc).1
  · rw [if_neg q, if_neg q]; exact (zdr_bits d h1 b hb c hc).2
theorem zsy_door {S : Nat → Int32} (h : zWF S) {a b : Nat} (ha : a < 8) (hb : b < 8) (v : Int32) : zsy (upd (upd S a (zdr v (S a) (nI b))) b (zdr v (upd S a (zdr v (S a) (nI b)) b) (nI a))) := by
  have hA : zlt 256 (zdr v (S a) (nI b)) := zdr_lt (h.door ha) ⟨b, hb, rfl⟩
  have hD : ∀ k : Nat, k < 8 → zlt 256 (S k) := fun k hk => h.door hk
  have key : ∀ x y : Nat, x < 8 → y < 8 → zshr (upd (upd S a (zdr v (S a) (nI b))) b (zdr v (upd S a (zdr v (S a) (nI b)) b) (nI a)) x) (nI y) &&& 1 = if (x = a ∧ y = b) ∨ (x = b ∧ y = a) then (if v = 0 then 0 else 1) else zshr (S x) (nI y) &&& 1 := by
    intro x y hx hy
    by_cases qb : x = b
    · subst qb
      rw [show upd (upd S a (zdr v (S a) (nI x))) x (zdr v (upd S a (zdr v (S a) (nI x)) x) (nI a)) x = zdr v (upd S a (zdr v (S a) (nI x)) x) (nI a) by unfold upd; rw [if_pos rfl]]
      by_cases qa : x = a
      · subst qa
        rw [show upd S x (zdr v (S x) (nI x)) x = zdr v (S x) (nI x) by unfold upd; rw [if_pos rfl], zdr_bit hA hx hy, zdr_bit (hD x hx) hx hy]
        by_cases qy : y = x
        · rw [if_pos qy, if_pos (Or.inl ⟨rfl, qy⟩)]
        · rw [if_neg qy, if_neg qy, if_neg (by omega)]
      · rw [show upd S a (zdr v (S a) (nI x)) x = S x by unfold upd; rw [if_neg qa], zdr_bit (hD x hx) ha hy]
        by_cases qy : y = a
        · rw [if_pos qy, if_pos (Or.inr ⟨rfl, qy⟩)]
        · rw [if_neg qy, if_neg (by omega)]
    · rw [show upd (upd S a (zdr v (S a) (nI b))) b (zdr v (upd S a (zdr v (S a) (nI b)) b) (nI a)) x = upd S a (zdr v (S a) (nI b)) x by unfold upd; rw [if_neg qb]]
      by_cases qa : x = a
      · subst qa
        rw [show upd S x (zdr v (S x) (nI b)) x = zdr v (S x) (nI b) by unfold upd; rw [if_pos rfl], zdr_bit (hD x hx) hb hy]
        by_cases qy : y = b
        · rw [if_pos qy, if_pos (Or.inl ⟨rfl, qy⟩)]
        · rw [if_neg qy, if_neg (by omega)]
      · rw [show upd S a (zdr v (S a) (nI b)) x = S x by unfold upd; rw [if_neg qa], if_neg (by omega)]
  intro x y hx hy
  rw [key x y hx hy, key y x hy hx]
  by_cases q : (x = a ∧ y = b) ∨ (x = b ∧ y = a)
  · rw [if_pos q, if_pos (show (y = a ∧ x = b) ∨ (y = b ∧ x = a) by omega)]
  · rw [if_neg q, if_neg (show ¬ ((y = a ∧ x = b) ∨ (y = b ∧ x = a)) by omega)]; exact h.2.2 x y hx hy
theorem zRw_door {w : Nat} {I J : zI} (h : zRw w I J) {a b : Nat} (ha : a < 8) (hb : b < 8) (v : Int32) : zRw w (zup (zup I (w + 1) a (zdr v (I (w + 1) a) (nI b))) (w + 1) b (zdr v (zup I (w + 1) a (zdr v (I (w + 1) a) (nI b)) (w + 1) b) (nI a))) (zup (zup J 51 a (zdr v (J 51 a) (nI b))) 51 b (zdr v (zup J 51 a (zdr v (J 51 a) (nI b)) 51 b) (nI a))) := by
  have ca : zcm w a = (w + 1, a) := by unfold zcm; rw [if_pos ha]
  have cb : zcm w b = (w + 1, b) := by unfold zcm; rw [if_pos hb]
  have row : ∀ k : Nat, k < 120 → rW (zup I (w + 1) a (zdr v (I (w + 1) a) (nI b))) w k = zup J 51 a (zdr v (J 51 a) (nI b)) 51 k := by
    intro k hk
    have e := rW_up (I := I) (w := w) (j := a) (k := k) (v := zdr v (I (w + 1) a) (nI b)) (by omega) hk
    rw [ca] at e
    rw [e, zup_same, h.door ha]
    unfold upd
    by_cases q : k = a
    · rw [if_pos q, if_pos q]
    · rw [if_neg q, if_neg q]; exact h.1 k hk
  have rb : zup I (w + 1) a (zdr v (I (w + 1) a) (nI b)) (w + 1) b = zup J 51 a (zdr v (J 51 a) (nI b)) 51 b := by
    rw [← row b (by omega)]
    unfold rW
    rw [cb]
  have hl : ∀ k : Nat, k < 8 → zlt 256 (upd (J 51) a (zdr v (J 51 a) (nI b)) k) := by
    intro k hk
    unfold upd
    by_cases q : k = a
    · rw [if_pos q]; exact zdr_lt (h.2.door ha) ⟨b, hb, rfl⟩
    · rw [if_neg q]; exact h.2.door hk
  refine ⟨fun k hk => ?_, ⟨fun j hj => ?_, fun k hk => ?_, ?_⟩⟩
  · have e := rW_up (I := zup I (w + 1) a (zdr v (I (w + 1) a) (nI b))) (w := w) (j := b) (k := k) (v := zdr v (zup I (w + 1) a (zdr v (I (w + 1) a) (nI b)) (w + 1) b) (nI a)) (by omega) hk
    rw [cb] at e
    rw [e, zup_same (c := 51) (k := b), rb]
    unfold upd
    by_cases q : k = b
    · rw [if_pos q, if_pos q]
    · rw [if_neg q, if_neg q]; exact row k hk
  · rw [zup_same, zup_same]
    by_cases q : j = b
    · rw [show upd (upd (J 51) a (zdr v (J 51 a) (nI b))) b (zdr v (upd (J 51) a (zdr v (J 51 a) (nI b)) b) (nI a)) j = zdr v (upd (J 51) a (zdr v (J 51 a) (nI b)) b) (nI a) by unfold upd; rw [if_pos q], q, zok_door hb]
      exact zdr_lt (hl b hb) ⟨a, ha, rfl⟩
    · rw [show upd (upd (J 51) a (zdr v (J 51 a) (nI b))) b (zdr v (upd (J 51) a (zdr v (J 51 a) (nI b)) b) (nI a)) j = upd (J 51) a (zdr v (J 51 a) (nI b)) j by unfold upd; rw [if_neg q]]
      by_cases q2 : j = a
      · rw [q2, zok_door ha]; exact hl a ha
      · rw [show upd (J 51) a (zdr v (J 51 a) (nI b)) j = J 51 j by unfold upd; rw [if_neg q2]]
        exact h.2.1 j hj
  · rw [zup_same, zup_same]
    unfold upd
    rw [if_neg (by omega), if_neg (by omega), if_neg (by omega), if_neg (by omega)]
    exact h.2.2.1 k hk
  · rw [zup_same, zup_same]
    exact zsy_door h.2 ha hb v
/-- Rel after writes into the world alone -/
theorem zRel_w {I J I' J' : zI} (h : zRel I J) (hw : zRw 1 I' J') (hI : ∀ c, ¬ (1 ≤ c ∧ c ≤ 9) → I' c = I c) (hJ : ∀ c, c ≠ 51 → J' c = J c) : zRel I' J' ∧ zO7 I I' ∧ zO8 J J' :=
  ⟨zRel_world h hw (fun c s hc => by rw [hI c (by unfold zcX at hc; omega)]) (fun c s hc => by rw [hJ c (by unfold zcY at hc; omega)]), fun c hc => hI c (by omega), fun c hc => hJ c (by omega)⟩
theorem q_door (a b v : Int32) (I J : zI) (h : zRel I J) : ∃ r I' J', fX7_door a b v I = some (r, I') ∧ fX8_door a b v J = some (r, J') ∧ zRel I' J' ∧ zO7 I I' ∧ zO8 J J' := by
  unfold fX7_door fX8_door
  simp only [room7, room8, within7, within8I, zb_s, zif]
  by_cases ha : ¬ zlt 8 a
  · simp only [zite_f ha]; exact fin_leaf h 0
  replace ha := Classical.not_not.mp ha
  simp only [zite_t ha]
  by_cases hb : ¬ zlt 8 b
  · simp only [zite_f hb]; exact fin_leaf h 0
  replace hb := Classical.not_not.mp hb
  simp only [zite_t hb]
  by_cases hab : a = b
  · simp only [hab, ↓reduceIte]; exact fin_leaf h 0
  simp only [hab, ↓reduceIte]
  rw [show Int32.toInt 0 = 0 from rfl, show Int32.toInt 1 = 1 from rfl, show Int64.toInt 0 = 0 from rfl, show Int64.toInt 1 = 1 from rfl]
  by_cases hv : ¬ zbt 0 1 v
  · simp only [zite_f hv]; exact fin_leaf h 0
  replace hv := Classical.not_not.mp hv
  simp only [zite_t hv]
  obtain ⟨a, ha, rfl⟩ := ha
  obtain ⟨b, hb, rfl⟩ := hb
  simp only [isOpen6 h.1 ha, isOpen8 ha, setDoor6 ha hb, opensDoor8 ha hb, zb_s, zif]
  have hw := fun v => zRel_w h (zRw_door h.1 ha hb v) (fun c hc => by rw [zup_ne (by omega), zup_ne (by omega)]) (fun c hc => by rw [zup_ne hc, zup_ne hc])
  by_cases q2 : zshr (J 51 a) (nI b) &&& 1 = 1
  · simp only [zite_t q2, zb_s]
    by_cases q : v = 1
    · simp only [q, ↓reduceIte]
      exact ⟨_, _, _, rfl, rfl, hw 1⟩
    · simp only [q, ↓reduceIte]
      exact ⟨_, _, _, rfl, rfl, hw 0⟩
  · simp only [zite_f q2, zb_s]
    by_cases q : v = 1
    · simp only [q, ↓reduceIte]
      exact ⟨_, _, _, rfl, rfl, hw 1⟩
    · simp only [q, ↓reduceIte]
      exact ⟨_, _, _, rfl, rfl, hw 0⟩
