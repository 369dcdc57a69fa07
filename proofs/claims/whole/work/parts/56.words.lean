/-! words and numbers of a text -/
/-- the bytes from f to t are the word i -/
def mt (b : Nat → Int32) (i f t : Nat) : Prop := zsLen i = t - f ∧ ∀ j : Nat, j < zsLen i → b (f + j) = zsAt i j
theorem zgs_k {α : Type} {i : Nat} (h : i < 36) (t : Option α) : zgs i t = t := by unfold zgs; rw [if_pos h]
theorem isWordIn7 {b : Nat → Int32} {n i f t : Nat} {X : zI} (h : zX7 b n X) (hi : i < 36) (hft : f ≤ t) (ht : t ≤ n) : fX3_isWordIn 1000 i (nI f) (nI t) X = some (zp (mt b i f t)) := by
  obtain ⟨h1, h2, hn⟩ := h
  have hl := zsLen_lt i hi
  unfold fX3_isWordIn
  rw [zgs_k hi, pk_sub hft]
  by_cases q : zsLen i = t - f
  · rw [if_pos (show nI (zsLen i) = nI (t - f) by rw [q])]
    obtain ⟨u, u1, u2⟩ := zit_one (g := gX3_isWordIn_15 i (nI f) (nI t) X) (fun k s => ∃ j : Nat, j ≤ t - f ∧ k = t - f - j ∧ s = nI j ∧ ∀ x : Nat, x < j → b (f + x) = zsAt i x) (fun s : Int32 ⊕ Unit => (s = .inr () ∧ mt b i f t) ∨ (s = .inl 0 ∧ ¬ mt b i f t)) (by
      rintro k s ⟨j, hj, rfl, rfl, hb⟩
      unfold gX3_isWordIn_15
      rw [pk_sub hft]
      by_cases z : j = t - f
      · right
        rw [if_pos (nI_le (by omega) (by omega))]
        exact ⟨_, rfl, Or.inl ⟨rfl, q, fun x hx => hb x (by omega)⟩⟩
      · rw [if_neg (zz_nle (by omega) (by omega)), nI_add, zg_k _ (show f + j < 120 by omega), zgs_k hi, zg_k _ (show j < zsLen i by omega) hl, zn_k (show f + j < 2 ^ 31 by omega), zn_k (show j < 2 ^ 31 by omega), h1 _ (by omega)]
        by_cases y : b (f + j) = zsAt i j
        · left
          rw [if_pos y, zl_s, nI_1]
          refine ⟨_, t - f - (j + 1), rfl, by omega, j + 1, by omega, rfl, rfl, fun x hx => ?_⟩
          by_cases w : x = j
          · rw [w]; exact y
          · exact hb x (by omega)
        · right
          rw [if_neg y]
          exact ⟨_, rfl, Or.inr ⟨rfl, fun w => y (w.2 j (by omega))⟩⟩) 1000 (t - f) 0 ⟨0, by omega, by omega, rfl, fun x hx => absurd hx (by omega)⟩ (by omega)
    rw [u1]
    rcases u2 with ⟨rfl, w⟩ | ⟨rfl, w⟩
    · rw [zbs_r, zp_t w]
    · rw [zbs_l, zp_f w]
  · rw [if_neg (fun z => q ((nI_eq hl (by omega)).mp z)), zp_f (fun z => q z.1)]
def zWv (b : Nat → Int32) (f t : Nat) (v : Int32) : Prop := (∃ w : Nat, w < 17 ∧ v = nI w ∧ mt b w f t) ∨ (v = (-1) ∧ ∀ w : Nat, w < 17 → ¬ mt b w f t)
theorem name_ok : ∀ w : Nat, w < 17 → fX5_nameOf (nI w) = some w := by decide +kernel
theorem wordIn7 {b : Nat → Int32} {n f t : Nat} {X : zI} (h : zX7 b n X) (hft : f ≤ t) (ht : t ≤ n) : ∃ v, fX3_wordIn 1000 (nI f) (nI t) X = some v ∧ zWv b f t v := by
  obtain ⟨u, u1, u2⟩ := zit_one (g := gX3_wordIn_2 1000 (nI f) (nI t) X) (fun k s => ∃ j : Nat, j ≤ 17 ∧ k = 17 - j ∧ s = nI j ∧ ∀ w : Nat, w < j → ¬ mt b w f t) (fun s : Int32 ⊕ Unit => (∃ w : Nat, w < 17 ∧ s = .inl (nI w) ∧ mt b w f t) ∨ (s = .inr () ∧ ∀ w : Nat, w < 17 → ¬ mt b w f t)) (by
    rintro k s ⟨j, hj, rfl, rfl, hb⟩
    unfold gX3_wordIn_2
    by_cases q : j = 17
    · subst q
      right
      rw [if_pos (show (17 : Int32) ≤ nI 17 from Int32.le_refl _)]
      exact ⟨_, rfl, Or.inr ⟨rfl, hb⟩⟩
    rw [if_neg (show ¬ (17 : Int32) ≤ nI j from zz_nle (b := 17) (by omega) (by omega)), name_ok j (by omega), zb_s, isWordIn7 h (by omega) hft ht, zb_s, zif, nI_1]
    by_cases z : mt b j f t
    · right
      rw [zite_t z]
      exact ⟨_, rfl, Or.inl ⟨j, by omega, rfl, z⟩⟩
    · left
      rw [zite_f z, zl_s]
      refine ⟨_, 17 - (j + 1), rfl, by omega, j + 1, by omega, rfl, rfl, fun w hw => ?_⟩
      by_cases y : w = j
      · rw [y]; exact z
      · exact hb w (by omega)) 1000 17 0 ⟨0, by omega, by omega, rfl, fun w hw => absurd hw (by omega)⟩ (by omega)
  unfold fX3_wordIn
  rw [u1]
  rcases u2 with ⟨w, w1, rfl, w2⟩ | ⟨rfl, w2⟩
  · rw [zbs_l]; exact ⟨_, rfl, Or.inl ⟨w, w1, rfl, w2⟩⟩
  · rw [zbs_r]; exact ⟨_, rfl, Or.inr ⟨rfl, w2⟩⟩
def zdg (b : Nat → Int32) (x : Nat) : Nat := (b x).toInt.toNat - 48
theorem zdg_ok {b : Nat → Int32} {x : Nat} (h : kdb (b x) = 2) : zdg b x < 10 ∧ b x = nI (48 + zdg b x) := by
  have h2 := kdb_2.mp h
  unfold zdg
  refine ⟨by omega, Int32.toInt_inj.mp ?_⟩
  rw [nI_toInt (by omega)]
  omega
def zNu (b : Nat → Int32) (f : Nat) : Nat → Nat
  | 0 => 0
  | j + 1 => if 1000 < zNu b f j * 10 + zdg b (f + j) then 1000 else zNu b f j * 10 + zdg b (f + j)
theorem zNu_le (b : Nat → Int32) (f : Nat) : ∀ j : Nat, zNu b f j ≤ 1000
  | 0 => Nat.zero_le _
  | j + 1 => by
    show (if 1000 < zNu b f j * 10 + zdg b (f + j) then 1000 else zNu b f j * 10 + zdg b (f + j)) ≤ 1000
    split <;> omega
theorem numberIn7 {b : Nat → Int32} {n f t : Nat} {X : zI} (h : zX7 b n X) (hft : f ≤ t) (ht : t ≤ n) (hd : ∀ x : Nat, f ≤ x → x < t → kdb (b x) = 2) : fX3_numberIn 1000 (nI f) (nI t) X = some (nI (zNu b f (t - f))) := by
  obtain ⟨h1, h2, hn⟩ := h
  obtain ⟨u, u1, u2⟩ := zit_one (g := gX3_numberIn_5 (nI t) X) (fun k s => ∃ j : Nat, f + j ≤ t ∧ k = t - f - j ∧ s = (nI (zNu b f j), nI (f + j))) (fun s : Int32 => s = nI (zNu b f (t - f))) (by
    rintro k s ⟨j, hj, rfl, rfl⟩
    unfold gX3_numberIn_5
    dsimp only
    by_cases q : f + j = t
    · right
      rw [if_pos (nI_le (by omega) (by omega)), show t - f = j by omega]
      exact ⟨_, rfl, rfl⟩
    left
    have hl := zNu_le b f j
    obtain ⟨d1, d2⟩ := zdg_ok (hd (f + j) (by omega) (by omega))
    rw [if_neg (zz_nle (by omega) (by omega)), zg_k _ (show f + j < 120 by omega), zn_k (show f + j < 2 ^ 31 by omega), h1 _ (by omega), d2]
    rw [show nI (zNu b f j) * (10 : Int32) = nI (zNu b f j * 10) from pk_mul _ 10, nI_add, show nI (zNu b f j * 10 + (48 + zdg b (f + j))) - 48 = nI (zNu b f j * 10 + zdg b (f + j)) by
      rw [show nI (zNu b f j * 10 + (48 + zdg b (f + j))) - 48 = nI (zNu b f j * 10 + (48 + zdg b (f + j)) - 48) from pk_sub (b := 48) (by omega), show zNu b f j * 10 + (48 + zdg b (f + j)) - 48 = zNu b f j * 10 + zdg b (f + j) by omega]]
    rw [zl_s, zl_s, nI_1]
    refine ⟨_, t - f - (j + 1), rfl, by omega, j + 1, by omega, rfl, ?_⟩
    show (_, _) = (nI (if 1000 < zNu b f j * 10 + zdg b (f + j) then 1000 else zNu b f j * 10 + zdg b (f + j)), nI (f + (j + 1)))
    by_cases z : 1000 < zNu b f j * 10 + zdg b (f + j)
    · rw [if_pos z, if_pos (show (1000 : Int32) < _ from nI_lt (a := 1000) z (by omega))]; rfl
    · rw [if_neg z, if_neg (show ¬ (1000 : Int32) < _ from nI_nlt (b := zNu b f j * 10 + zdg b (f + j)) (a := 1000) (by omega) (by omega))]; rfl) 1000 (t - f) (0, nI f) ⟨0, by omega, by omega, rfl⟩ (by omega)
  unfold fX3_numberIn
  rw [u1, zb_s, u2]
/-- the number, or -1 -/
def zNv (b : Nat → Int32) (n f t : Nat) (v : Int32) : Prop := (f < n ∧ kdb (b f) = 2 ∧ v = nI (zNu b f (t - f))) ∨ (¬ (f < n ∧ kdb (b f) = 2) ∧ v = (-1))
theorem tok_digits {b : Nat → Int32} {n f t : Nat} (h : zTok b n f t) (hk : kdb (b f) = 2) : ∀ x : Nat, f ≤ x → x < t → kdb (b x) = 2 := by
  obtain ⟨h1, h2, h3, h4, h5⟩ := h
  intro x x1 x2
  rcases h5 with ⟨_, h6, _⟩ | ⟨h6, _⟩
  · by_cases z : x = f
    · rw [z]; exact hk
    · rw [h6 x (by omega) x2]; exact hk
  · exact absurd (Or.inr hk) h6
theorem numberHere8 {b : Nat → Int32} {n f t : Nat} {Y : zI} (h : zY b n Y) (hh : zHere b n f t) (e13 : Y 50 13 = nI f) (e14 : Y 50 14 = nI t) : ∃ v, fX8_numberHere 1000 Y = some v ∧ ((v = (-1) ∧ ¬ (f < n ∧ kdb (b f) = 2)) ∨ ((f < n ∧ kdb (b f) = 2) ∧ ∃ m : Nat, v = nI m ∧ ((m = zNu b f (t - f) ∧ m ≤ 999) ∨ (999 < m ∧ m < 100000 ∧ 999 < zNu b f (t - f))))) := by
  have hn := h.2.2
  have hf : f ≤ n := by rcases hh with ⟨z, _⟩ | ⟨z, _⟩ <;> omega
  unfold fX8_numberHere
  rw [e13, isDigit8 h (by omega), zb_s, zif]
  by_cases q : f < n ∧ kdb (b f) = 2
  · rw [zite_t q, zb_s, zl_s]
    have ht : zTok b n f t := by
      rcases hh with ⟨_, z⟩ | ⟨z, _⟩
      · exact z
      · omega
    have hd := tok_digits ht q.2
    obtain ⟨_, _, t1, t2, _⟩ := ht
    obtain ⟨u, u1, m, u2, u3⟩ := zit_one (g := gX8_numberHere_26 Y) (fun k s => ∃ j m : Nat, f + j ≤ t ∧ k = t - f - j ∧ s = (nI m, nI (f + j)) ∧ ((m = zNu b f j ∧ m ≤ 999) ∨ (999 < m ∧ m < 100000 ∧ 999 < zNu b f j))) (fun s : Int32 => ∃ m : Nat, s = nI m ∧ ((m = zNu b f (t - f) ∧ m ≤ 999) ∨ (999 < m ∧ m < 100000 ∧ 999 < zNu b f (t - f)))) (by
      rintro k s ⟨j, m, hj, rfl, rfl, hm⟩
      unfold gX8_numberHere_26
      dsimp only
      rw [e14]
      by_cases z : f + j = t
      · right
        rw [if_pos (nI_le (by omega) (by omega)), show t - f = j by omega]
        exact ⟨_, rfl, m, rfl, hm⟩
      left
      have hl := zNu_le b f j
      obtain ⟨d1, d2⟩ := zdg_ok (hd (f + j) (by omega) (by omega))
      have es : zNu b f (j + 1) = if 1000 < zNu b f j * 10 + zdg b (f + j) then 1000 else zNu b f j * 10 + zdg b (f + j) := rfl
      rw [if_neg (zz_nle (by omega) (by omega)), if_neg (nI_pos (by omega)), nI_1]
      rcases hm with ⟨m1, m2⟩ | ⟨m1, m2, m3⟩
      · rw [if_pos (show nI m ≤ 999 from nI_le (b := 999) m2 (by omega)), zg_k _ (show f + j < 120 by omega), zn_k (show f + j < 2 ^ 31 by omega), h.1 _ (by omega), d2, zl_s, zl_s, show (10 : Int32) * nI m = nI (10 * m) from pk_mul 10 m, nI_add, show nI (10 * m + (48 + zdg b (f + j))) - 48 = nI (10 * m + (48 + zdg b (f + j)) - 48) from pk_sub (b := 48) (by omega)]
        refine ⟨_, t - f - (j + 1), rfl, by omega, j + 1, _, by omega, rfl, rfl, ?_⟩
        rw [es]
        by_cases y : 1000 < zNu b f j * 10 + zdg b (f + j)
        · rw [if_pos y]
          exact Or.inr ⟨by omega, by omega, by omega⟩
        · rw [if_neg y]
          by_cases w : zNu b f j * 10 + zdg b (f + j) ≤ 999
          · exact Or.inl ⟨by omega, by omega⟩
          · exact Or.inr ⟨by omega, by omega, by omega⟩
      · rw [if_neg (show ¬ nI m ≤ 999 from zz_nle (a := 999) (by omega) m1), zl_s]
        refine ⟨_, t - f - (j + 1), rfl, by omega, j + 1, m, by omega, rfl, rfl, Or.inr ⟨m1, m2, ?_⟩⟩
        rw [es, if_pos (by omega)]
        omega) 1000 (t - f) (0, nI f) ⟨0, 0, by omega, by omega, rfl, Or.inl ⟨rfl, by omega⟩⟩ (by omega)
    rw [u1, zb_s]
    exact ⟨u, rfl, Or.inr ⟨q, m, u2, u3⟩⟩
  · rw [zite_f q, zb_s, zl_s]
    refine ⟨-1, ?_, Or.inl ⟨rfl, q⟩⟩
    have e : gX8_numberHere_26 Y (-1, nI f) = some (.inr (-1)) := by
      unfold gX8_numberHere_26
      dsimp only
      by_cases z : Y 50 14 ≤ nI f
      · rw [if_pos z]
      · rw [if_neg z, if_pos (by decide)]
    rw [zit_r (n := 999) e, zb_s]
theorem isWord8 {b : Nat → Int32} {n i f t : Nat} {Y : zI} (h : zY b n Y) (hi : i < 36) (hft : f ≤ t) (ht : t ≤ n) (e13 : Y 50 13 = nI f) (e14 : Y 50 14 = nI t) : fX8_isWord 1000 i Y = some (zp (Y 50 15 = 0 ∧ mt b i f t)) := by
  have hn := h.2.2
  have hl := zsLen_lt i hi
  unfold fX8_isWord
  rw [e13, e14, pk_sub hft]
  by_cases q : Y 50 15 = 0 ∧ zsLen i = t - f
  · rw [if_pos q.1, zgs_k hi, if_pos (show nI (t - f) = nI (zsLen i) by rw [q.2]), zbs_l, zb_s]
    obtain ⟨u, u1, u2⟩ := zit_one (g := gX8_isWord_31 i Y) (fun k s => ∃ (j : Nat) (P : Prop), j ≤ t - f ∧ k = t - f - j ∧ s = (zp P, nI j) ∧ (P ↔ ∀ x : Nat, x < j → b (f + x) = zsAt i x)) (fun s : Int32 => s = zp (mt b i f t)) (by
      rintro k s ⟨j, P, hj, rfl, rfl, hP⟩
      unfold gX8_isWord_31
      dsimp only
      rw [zif, zgs_k hi]
      by_cases y : P
      · rw [zite_t y]
        by_cases z : j = t - f
        · right
          rw [if_pos (nI_le (by omega) (by omega)), zp_eq (show P ↔ mt b i f t from hP.trans ⟨fun w => ⟨q.2, fun x hx => w x (by omega)⟩, fun w x hx => w.2 x (by omega)⟩)]
          exact ⟨_, rfl, rfl⟩
        · left
          rw [if_neg (zz_nle (by omega) (by omega)), e13, nI_add, zg_k _ (show f + j < 120 by omega), zgs_k hi, zg_k _ (show j < zsLen i by omega) hl, zn_k (show f + j < 2 ^ 31 by omega), zn_k (show j < 2 ^ 31 by omega), h.1 _ (by omega), nI_1, zl_s, zl_s]
          by_cases w : b (f + j) = zsAt i j
          · rw [if_pos w]
            refine ⟨_, t - f - (j + 1), rfl, by omega, j + 1, True, by omega, rfl, by rw [zp_t trivial], ⟨fun _ x hx => ?_, fun _ => trivial⟩⟩
            by_cases v : x = j
            · rw [v]; exact w
            · exact (hP.mp y) x (by omega)
          · rw [if_neg w]
            exact ⟨_, t - f - (j + 1), rfl, by omega, j + 1, False, by omega, rfl, by rw [zp_f id], ⟨fun z => z.elim, fun v => w (v j (by omega))⟩⟩
      · right
        rw [zite_f y]
        refine ⟨_, rfl, ?_⟩
        rw [zp_f y, zp_f (fun w => y (hP.mpr (fun x hx => w.2 x (by omega))))]) 1000 (t - f) (1, 0) ⟨0, True, by omega, by omega, by rw [zp_t trivial]; rfl, ⟨fun _ x hx => absurd hx (by omega), fun _ => trivial⟩⟩ (by omega)
    rw [u1, zb_s, u2, zgb_p, zp_eq (show mt b i f t ↔ (Y 50 15 = 0 ∧ mt b i f t) from ⟨fun w => ⟨q.1, w⟩, fun w => w.2⟩)]
  · have e0 : (zbs (if Y 50 15 = 0 then zgs i (if nI (t - f) = nI (zsLen i) then some (.inl 1) else some (.inr ())) else some (.inr ())) fun x5 : Unit => some (0 : Int32)) = some 0 := by
      by_cases z : Y 50 15 = 0
      · rw [if_pos z, zgs_k hi, if_neg (fun y => q ⟨z, ((nI_eq (by omega) hl).mp y).symm⟩), zbs_r]
      · rw [if_neg z, zbs_r]
    have e1 : gX8_isWord_31 i Y (0, 0) = some (.inr 0) := by
      unfold gX8_isWord_31
      dsimp only
      rw [if_pos rfl]
    rw [e0, zb_s, zit_r (n := 999) e1, zb_s, zgb_0, zp_f (fun w => q ⟨w.1, w.2.1⟩)]
/-- the reference's word for a word of the class -/
def zlw (w : Nat) : Nat := if w < 7 then 18 + w else if w < 13 then 22 + w else 12 + w
def zsSame (i j : Nat) : Bool := decide (zsLen i = zsLen j) && (List.range (zsLen i)).all (fun k => decide (zsAt i k = zsAt j k))
def zsDif (i j : Nat) : Bool := decide (¬ zsLen i = zsLen j) || (List.range (zsLen i)).any (fun k => decide (¬ zsAt i k = zsAt j k))
theorem zs_same : ∀ w : Nat, w < 17 → zsSame w (zlw w) = true := by decide +kernel
theorem zs_dif : ∀ w : Nat, w < 17 → ∀ v : Nat, v < 17 → ¬ w = v → zsDif w v = true := by decide +kernel
theorem zs_first : ∀ w : Nat, w < 17 → 0 < zsLen w ∧ kdb (zsAt w 0) = 1 := by decide +kernel
theorem mt_lw {b : Nat → Int32} {w f t : Nat} (hw : w < 17) : mt b (zlw w) f t ↔ mt b w f t := by
  have h := zs_same w hw
  unfold zsSame at h
  rw [Bool.and_eq_true] at h
  have h1 := of_decide_eq_true h.1
  have h2 : ∀ k : Nat, k < zsLen w → zsAt w k = zsAt (zlw w) k := fun k hk => of_decide_eq_true (List.all_eq_true.mp h.2 k (List.mem_range.mpr hk))
  unfold mt
  rw [← h1]
  constructor
  · rintro ⟨a, c⟩; exact ⟨a, fun j hj => by rw [h2 j hj]; exact c j hj⟩
  · rintro ⟨a, c⟩; exact ⟨a, fun j hj => by rw [← h2 j hj]; exact c j hj⟩
theorem mt_one {b : Nat → Int32} {w v f t : Nat} (hw : w < 17) (hv : v < 17) (h : mt b w f t) (k : mt b v f t) : w = v := by
  refine Classical.byContradiction fun z => ?_
  have d := zs_dif w hw v hv z
  unfold zsDif at d
  rw [Bool.or_eq_true, List.any_eq_true] at d
  rcases d with d | ⟨x, hx, d⟩
  · exact of_decide_eq_true d (h.1.trans k.1.symm)
  · have hx2 := List.mem_range.mp hx
    refine of_decide_eq_true d ?_
    rw [← h.2 x hx2, ← k.2 x (by rw [k.1, ← h.1]; exact hx2)]
theorem mt_1 {b : Nat → Int32} {w f t : Nat} (hw : w < 17) (h : mt b w f t) : f < t ∧ kdb (b f) = 1 := by
  obtain ⟨a, c⟩ := zs_first w hw
  have h0 := h.2 0 a
  rw [Nat.add_zero] at h0
  rw [h0]
  exact ⟨by have := h.1; omega, c⟩
theorem mt_35 {b : Nat → Int32} {n f t : Nat} (hh : zHere b n f t) : mt b 35 f t ↔ f < n ∧ kdb (b f) = 3 := by
  have l1 : zsLen 35 = 1 := by decide
  have l2 : zsAt 35 0 = 59 := by decide
  constructor
  · rintro ⟨a, c⟩
    rw [l1] at a
    have c0 := c 0 (by rw [l1]; omega)
    rw [Nat.add_zero, l2] at c0
    refine ⟨?_, by rw [c0]; decide⟩
    rcases hh with ⟨z, _⟩ | ⟨z, z2⟩ <;> omega
  · rintro ⟨a, c⟩
    rcases hh with ⟨z, z1, z2, z3, z4, z5⟩ | ⟨z, _⟩
    · rcases z5 with ⟨y, _⟩ | ⟨_, y⟩
      · rw [c] at y; rcases y with y | y <;> exact absurd y (by decide)
      · refine ⟨by rw [l1]; omega, fun j hj => ?_⟩
        have : j = 0 := by rw [l1] at hj; omega
        subst this
        rw [Nat.add_zero, l2]
        exact eqI_iff.mpr (kdb_3.mp c)
    · omega
