/-! the tokens of the class -/
def zVl (b : Nat → Int32) (f t : Nat) (v : Int32) : Prop := (kdb (b f) = 1 → zWv b f t v) ∧ (kdb (b f) = 2 → v = nI (zNu b f (t - f)))
theorem valueOf7 {b : Nat → Int32} {n f t : Nat} {X : zI} (h : zX7 b n X) (ht : zTok b n f t) : ∃ v, fX3_valueOf 1000 (nI (kdb (b f))) (nI f) (nI t) X = some v ∧ zVl b f t v := by
  have hk := kdb_lt (b f)
  have h1 := ht.2.2.1
  have h2 := ht.2.2.2.1
  unfold fX3_valueOf zVl
  by_cases q1 : kdb (b f) = 1
  · obtain ⟨v, v1, v2⟩ := wordIn7 h (show f ≤ t by omega) h2
    rw [if_pos (show nI (kdb (b f)) = 1 by rw [q1]; rfl), v1, zb_s]
    exact ⟨v, rfl, fun _ => v2, fun z => by rw [q1] at z; exact absurd z (by decide)⟩
  · rw [if_neg (show ¬ nI (kdb (b f)) = 1 from fun z => q1 ((nI_eq (b := 1) (by omega) (by omega)).mp z))]
    by_cases q2 : kdb (b f) = 2
    · rw [if_pos (show nI (kdb (b f)) = 2 by rw [q2]; rfl), numberIn7 h (by omega) h2 (tok_digits ht q2), zb_s]
      exact ⟨_, rfl, fun z => absurd z q1, fun _ => rfl⟩
    · rw [if_neg (show ¬ nI (kdb (b f)) = 2 from fun z => q2 ((nI_eq (b := 2) (by omega) (by omega)).mp z))]
      exact ⟨_, rfl, fun z => absurd z q1, fun z => absurd z q2⟩
/-- behind k tokens: at place p -/
def zCh (b : Nat → Int32) (n : Nat) (A : zI) : Nat → Nat → Prop
  | 0, p => p = 0
  | k + 1, p => ∃ q f : Nat, zCh b n A k q ∧ zNext b n q f ∧ zTok b n f p ∧ A 35 k = nI (kdb (b f)) ∧ A 37 k = nI f ∧ zVl b f p (A 36 k)
theorem zCh_congr {b : Nat → Int32} {n : Nat} {A A' : zI} : ∀ {k p : Nat}, (∀ j : Nat, j < k → A' 35 j = A 35 j ∧ A' 36 j = A 36 j ∧ A' 37 j = A 37 j) → zCh b n A k p → zCh b n A' k p := by
  intro k
  induction k with
  | zero => exact fun _ h => h
  | succ k ih =>
    rintro p hA ⟨q, f, h1, h2, h3, h4, h5, h6⟩
    obtain ⟨a1, a2, a3⟩ := hA k (by omega)
    exact ⟨q, f, ih (fun j hj => hA j (by omega)) h1, h2, h3, a1.trans h4, a3.trans h5, by rw [a2]; exact h6⟩
theorem zCh_le {b : Nat → Int32} {n : Nat} {A : zI} : ∀ {k p : Nat}, zCh b n A k p → k ≤ p ∧ p ≤ n := by
  intro k
  induction k with
  | zero =>
    intro p h
    have e : p = 0 := h
    omega
  | succ k ih =>
    rintro p ⟨q, f, h1, h2, h3, -⟩
    have := ih h1
    have a1 := h2.1
    have a2 := h3.2.2.1
    have a3 := h3.2.2.2.1
    omega
theorem zCh_det {b : Nat → Int32} {n : Nat} {A : zI} : ∀ {k p p' : Nat}, zCh b n A k p → zCh b n A k p' → p = p' := by
  intro k
  induction k with
  | zero =>
    intro p p' h h'
    have e : p = 0 := h
    have e' : p' = 0 := h'
    omega
  | succ k ih =>
    rintro p p' ⟨q, f, h1, h2, h3, -⟩ ⟨q', f', h1', h2', h3', -⟩
    have e := ih h1 h1'
    subst e
    have e := next_det h2 h2'
    subst e
    exact tok_det h3 h3'
theorem zCh_pre {b : Nat → Int32} {n : Nat} {A : zI} : ∀ {T p k : Nat}, zCh b n A T p → k ≤ T → ∃ q, zCh b n A k q := by
  intro T
  induction T with
  | zero =>
    intro p k h hk
    have : k = 0 := by omega
    subst this
    exact ⟨p, h⟩
  | succ T ih =>
    intro p k h hk
    by_cases z : k = T + 1
    · subst z; exact ⟨p, h⟩
    · obtain ⟨q, f, h1, -⟩ := h
      exact ih h1 (by omega)
theorem split7 {b : Nat → Int32} {n : Nat} {X : zI} (h : zX7 b n X) : ∃ (A : zI) (T p : Nat), fX3_split 1000 X = some A ∧ zX7 b n A ∧ A 33 5 = nI T ∧ T ≤ 120 ∧ zCh b n A T p ∧ zNext b n p n ∧ ∀ c s : Nat, ¬ (35 ≤ c ∧ c ≤ 37) → ¬ (c = 33 ∧ s = 5) → A c s = X c s := by
  have hn := h.2.2
  obtain ⟨A, a1, T, p, a2, a3, a4, a5, a6⟩ := zit_one (g := gX3_split_9 1000) (fun m s => ∃ (i j T p : Nat) (Y : zI), s = (nI i, nI j, Y) ∧ j ≤ i ∧ i ≤ n ∧ m = n - i ∧ zX7 b n Y ∧ Y 33 5 = nI T ∧ zCh b n Y T p ∧ p ≤ i ∧ (∀ x : Nat, p ≤ x → x < i → kdb (b x) = 4) ∧ ∀ c s : Nat, ¬ (35 ≤ c ∧ c ≤ 37) → ¬ (c = 33 ∧ s = 5) → Y c s = X c s) (fun Y : zI => ∃ T p : Nat, zX7 b n Y ∧ Y 33 5 = nI T ∧ zCh b n Y T p ∧ zNext b n p n ∧ ∀ c s : Nat, ¬ (35 ≤ c ∧ c ≤ 37) → ¬ (c = 33 ∧ s = 5) → Y c s = X c s) (by
    rintro m s ⟨i, j, T, p, Y, rfl, hji, hin, rfl, hY, hT, hC, hpi, hb, hF⟩
    unfold gX3_split_9
    dsimp only
    have stop : i = n → ∃ T p : Nat, zX7 b n Y ∧ Y 33 5 = nI T ∧ zCh b n Y T p ∧ zNext b n p n ∧ ∀ c s : Nat, ¬ (35 ≤ c ∧ c ≤ 37) → ¬ (c = 33 ∧ s = 5) → Y c s = X c s := by
      intro z
      subst z
      exact ⟨T, p, hY, hT, hC, ⟨hpi, Nat.le_refl _, hb, fun y => absurd y (Nat.lt_irrefl _)⟩, hF⟩
    by_cases q : 120 ≤ j
    · right
      rw [if_pos (show (120 : Int32) ≤ nI j from nI_le (a := 120) q (by omega))]
      exact ⟨Y, rfl, stop (by omega)⟩
    rw [if_neg (show ¬ (120 : Int32) ≤ nI j from zz_nle (b := 120) (by omega) (by omega))]
    by_cases q2 : i = n
    · right
      rw [if_pos (show Y 33 1 ≤ nI i by rw [hY.2.1]; exact nI_le (by omega) (by omega))]
      exact ⟨Y, rfl, stop q2⟩
    left
    have hi2 : i < n := by omega
    obtain ⟨t, t1, t2, t3, t4, t5⟩ := endOf7 hY hi2
    have hk := kdb_lt (b i)
    rw [if_neg (show ¬ Y 33 1 ≤ nI i by rw [hY.2.1]; exact zz_nle (by omega) hi2), t1, zb_s, zg_k _ (show i < 120 by omega), zn_k (show i < 2 ^ 31 by omega), hY.1 i (by omega), kindOf7, zb_s, nI_1]
    by_cases q3 : kdb (b i) = 4
    · rw [if_pos (show nI (kdb (b i)) = 4 by rw [q3]; rfl), zl_s]
      refine ⟨_, n - t, rfl, by omega, t, j + 1, T, p, Y, rfl, by omega, t3, rfl, hY, hT, hC, by omega, fun x x1 x2 => ?_, hF⟩
      by_cases y : x = i
      · rw [y]; exact q3
      · exact hb x x1 (by have := t5 q3; omega)
    · rw [if_neg (show ¬ nI (kdb (b i)) = 4 from fun z => q3 ((nI_eq (b := 4) (by omega) (by omega)).mp z))]
      have tk := t4 q3
      obtain ⟨v, v1, v2⟩ := valueOf7 hY tk
      have hle := zCh_le hC
      have hT2 : T < 120 := by omega
      rw [v1, zb_s]
      unfold fX3_addToken
      rw [hT, if_pos (show nI T < 120 from nI_lt (b := 120) hT2 (by omega)), zg_k _ hT2, zn_k (show T < 2 ^ 31 by omega), zl_s, show zup Y 35 T (nI (kdb (b i))) 33 5 = nI T from (zup_r (by omega)).trans hT, zg_k _ hT2, zl_s, zn_k (show T < 2 ^ 31 by omega), show zup (zup Y 35 T (nI (kdb (b i)))) 36 T v 33 5 = nI T from (zup_r (by omega)).trans ((zup_r (by omega)).trans hT), zg_k _ hT2, zl_s, zl_s, zn_k (show T < 2 ^ 31 by omega), show zup (zup (zup Y 35 T (nI (kdb (b i)))) 36 T v) 37 T (nI i) 33 5 = nI T from (zup_r (by omega)).trans ((zup_r (by omega)).trans ((zup_r (by omega)).trans hT)), nI_1, zb_s, zl_s]
      obtain ⟨Z, hZ⟩ : ∃ Z : zI, Z = zup (zup (zup (zup Y 35 T (nI (kdb (b i)))) 36 T v) 37 T (nI i)) 33 5 (nI (T + 1)) := ⟨_, rfl⟩
      rw [← hZ]
      have z35 : ∀ x : Nat, Z 35 x = if x = T then nI (kdb (b i)) else Y 35 x := fun x => by
        rw [hZ, zup_r (by omega), zup_r (by omega), zup_r (by omega), zup_at]
        by_cases y : x = T
        · rw [if_pos ⟨rfl, y⟩, if_pos y]
        · rw [if_neg (fun w => y w.2), if_neg y]
      have z36 : ∀ x : Nat, Z 36 x = if x = T then v else Y 36 x := fun x => by
        rw [hZ, zup_r (by omega), zup_r (by omega), zup_at]
        by_cases y : x = T
        · rw [if_pos ⟨rfl, y⟩, if_pos y]
        · rw [if_neg (fun w => y w.2), if_neg y, zup_r (by omega)]
      have z37 : ∀ x : Nat, Z 37 x = if x = T then nI i else Y 37 x := fun x => by
        rw [hZ, zup_r (by omega), zup_at]
        by_cases y : x = T
        · rw [if_pos ⟨rfl, y⟩, if_pos y]
        · rw [if_neg (fun w => y w.2), if_neg y, zup_r (by omega), zup_r (by omega)]
      have zo : ∀ c s : Nat, ¬ (35 ≤ c ∧ c ≤ 37) → ¬ (c = 33 ∧ s = 5) → Z c s = Y c s := fun c s c1 c2 => by
        rw [hZ, zup_r c2, zup_r (by omega), zup_r (by omega), zup_r (by omega)]
      have z5 : Z 33 5 = nI (T + 1) := by rw [hZ, zup_s]
      clear hZ
      refine ⟨_, n - t, rfl, by omega, t, j + 1, T + 1, t, Z, rfl, by omega, t3, rfl, ⟨fun k hk => (zo 34 k (by omega) (by omega)).trans (hY.1 k hk), (zo 33 1 (by omega) (by omega)).trans hY.2.1, hn⟩, z5, ⟨p, i, zCh_congr (fun x hx => ?_) hC, ⟨hpi, hin, hb, fun _ => q3⟩, tk, ?_, ?_, ?_⟩, Nat.le_refl _, fun x x1 x2 => absurd x2 (by omega), fun c s c1 c2 => (zo c s c1 c2).trans (hF c s c1 c2)⟩
      · rw [z35, z36, z37, if_neg (by omega), if_neg (by omega), if_neg (by omega)]
        exact ⟨rfl, rfl, rfl⟩
      · rw [z35, if_pos rfl]
      · rw [z37, if_pos rfl]
      · rw [z36, if_pos rfl]; exact v2) 1000 n (0, 0, zup X 33 5 0) ⟨0, 0, 0, 0, _, rfl, by omega, by omega, rfl, ⟨fun k hk => (zup_r (by omega)).trans (h.1 k hk), (zup_r (by omega)).trans h.2.1, hn⟩, zup_s, rfl, by omega, fun x x1 x2 => absurd x2 (by omega), fun c s c1 c2 => zup_r c2⟩ (by omega)
  have hle := zCh_le a4
  unfold fX3_split
  rw [zl_s, a1, zb_s]
  exact ⟨A, T, p, rfl, a2, a3, by omega, a4, a5, a6⟩
/-- what the two have in common: bytes, how many, the tokens -/
def zTs (b : Nat → Int32) (n T : Nat) (A : zI) : Prop := zX7 b n A ∧ A 33 5 = nI T ∧ T ≤ 120 ∧ ∃ p : Nat, zCh b n A T p ∧ zNext b n p n
/-- the k-th token is from f to t (or there is none more) -/
def zAt (b : Nat → Int32) (n T : Nat) (A : zI) (k f t : Nat) : Prop := ∃ q : Nat, zCh b n A k q ∧ zNext b n q f ∧ ((k < T ∧ zTok b n f t) ∨ (k = T ∧ f = n ∧ t = n))
theorem zAt.here {b : Nat → Int32} {n T k f t : Nat} {A : zI} (h : zAt b n T A k f t) : zHere b n f t := by
  obtain ⟨q, h1, h2, h3⟩ := h
  rcases h3 with ⟨_, h3⟩ | ⟨_, h3⟩
  · exact Or.inl ⟨h3.1, h3⟩
  · exact Or.inr h3
theorem zHere.le {b : Nat → Int32} {n f t : Nat} (h : zHere b n f t) : f ≤ t ∧ t ≤ n := by
  rcases h with ⟨_, h⟩ | ⟨h1, h2⟩
  · have := h.2.2.1
    have := h.2.2.2.1
    omega
  · omega
theorem at_tok {b : Nat → Int32} {n T k f t : Nat} {A : zI} (hT : zTs b n T A) (hk : k < T) (h : zAt b n T A k f t) : zTok b n f t ∧ A 35 k = nI (kdb (b f)) ∧ A 37 k = nI f ∧ zVl b f t (A 36 k) ∧ zCh b n A (k + 1) t := by
  obtain ⟨q, h1, h2, h3⟩ := h
  have tk : zTok b n f t := by
    rcases h3 with ⟨_, h3⟩ | ⟨h3, _⟩
    · exact h3
    · omega
  obtain ⟨-, -, -, p, hp, -⟩ := hT
  obtain ⟨p1, hc⟩ := zCh_pre hp (show k + 1 ≤ T by omega)
  obtain ⟨q', f', c1, c2, c3, c4, c5, c6⟩ := hc
  have e := zCh_det h1 c1
  subst e
  have e := next_det h2 c2
  subst e
  have e := tok_det tk c3
  subst e
  exact ⟨tk, c4, c5, c6, ⟨q, f, c1, c2, c3, c4, c5, c6⟩⟩
theorem at_next {b : Nat → Int32} {n T k f t f' t' : Nat} {A : zI} (hT : zTs b n T A) (hk : k < T) (h : zAt b n T A k f t) (h2 : zNext b n t f') (h3 : zHere b n f' t') : zAt b n T A (k + 1) f' t' := by
  obtain ⟨-, -, -, -, hc⟩ := at_tok hT hk h
  obtain ⟨-, -, -, p, hp, hp2⟩ := hT
  refine ⟨t, hc, h2, ?_⟩
  by_cases q : k + 1 = T
  · subst q
    have e := zCh_det hc hp
    subst e
    have e := next_det h2 hp2
    subst e
    rcases h3 with ⟨z, _⟩ | z
    · omega
    · exact Or.inr ⟨rfl, z⟩
  · left
    obtain ⟨p2, hc2⟩ := zCh_pre hp (show k + 1 + 1 ≤ T by omega)
    obtain ⟨q', f0, c1, c2, c3, -⟩ := hc2
    have e := zCh_det hc c1
    subst e
    have e := next_det h2 c2
    subst e
    refine ⟨by omega, ?_⟩
    rcases h3 with ⟨_, z⟩ | ⟨z, _⟩
    · exact z
    · have := c3.1; omega
theorem at_first {b : Nat → Int32} {n T f t : Nat} {A : zI} (hT : zTs b n T A) (h2 : zNext b n 0 f) (h3 : zHere b n f t) : zAt b n T A 0 f t := by
  obtain ⟨-, -, -, p, hp, hp2⟩ := hT
  refine ⟨0, rfl, h2, ?_⟩
  by_cases q : 0 = T
  · subst q
    have e : p = 0 := hp
    subst e
    have e := next_det h2 hp2
    subst e
    rcases h3 with ⟨z, _⟩ | z
    · omega
    · exact Or.inr ⟨rfl, z⟩
  · left
    obtain ⟨p2, hc2⟩ := zCh_pre hp (show 0 + 1 ≤ T by omega)
    obtain ⟨q', f0, c1, c2, c3, -⟩ := hc2
    have e : q' = 0 := c1
    subst e
    have e := next_det h2 c2
    subst e
    refine ⟨by omega, ?_⟩
    rcases h3 with ⟨_, z⟩ | ⟨z, _⟩
    · exact z
    · have := c3.1; omega
/-- the class's tokens lie in X as in A -/
def zXA (A X : zI) : Prop := ∀ c s : Nat, c = 33 ∨ (34 ≤ c ∧ c ≤ 37) → X c s = A c s
theorem wordAt7 {b : Nat → Int32} {n T k f t : Nat} {A X : zI} (hT : zTs b n T A) (hX : zXA A X) (hk : k ≤ T) (h : zAt b n T A k f t) : ∃ v, fX3_wordAt (nI k) X = some v ∧ zWv b f t v := by
  have hT2 := hT.2.2.1
  unfold fX3_wordAt
  rw [hX 33 5 (by omega), hT.2.1, if_neg (nI_pos (by omega))]
  by_cases q : k < T
  · obtain ⟨tk, a1, a2, a3, a4⟩ := at_tok hT q h
    have hkk := kdb_lt (b f)
    rw [if_neg (zz_nle (by omega) q), zg_k _ (show k < 120 by omega), zg_k _ (show k < 120 by omega), zn_k (show k < 2 ^ 31 by omega), hX 35 k (by omega), hX 36 k (by omega), a1]
    by_cases z : kdb (b f) = 1
    · rw [if_pos (show nI (kdb (b f)) = 1 by rw [z]; rfl), zbs_l, zb_s, if_neg (by decide)]
      exact ⟨_, rfl, a3.1 z⟩
    · rw [if_neg (show ¬ nI (kdb (b f)) = 1 from fun y => z ((nI_eq (b := 1) (by omega) (by omega)).mp y)), zbs_r, zb_s, if_pos rfl]
      exact ⟨_, rfl, Or.inr ⟨rfl, fun w hw y => z (mt_1 hw y).2⟩⟩
  · rw [if_pos (nI_le (by omega) (by omega)), zbs_r, zb_s, if_pos rfl]
    refine ⟨_, rfl, Or.inr ⟨rfl, fun w hw y => ?_⟩⟩
    have := (mt_1 hw y).1
    obtain ⟨_, _, _, (⟨z, _⟩ | ⟨_, z1, z2⟩)⟩ := h <;> omega
theorem numberAt7 {b : Nat → Int32} {n T k f t : Nat} {A X : zI} (hT : zTs b n T A) (hX : zXA A X) (hk : k ≤ T) (h : zAt b n T A k f t) : ∃ v, fX3_numberAt (nI k) X = some v ∧ zNv b n f t v := by
  have hT2 := hT.2.2.1
  unfold fX3_numberAt
  rw [hX 33 5 (by omega), hT.2.1, if_neg (nI_pos (by omega))]
  by_cases q : k < T
  · obtain ⟨tk, a1, a2, a3, a4⟩ := at_tok hT q h
    have hkk := kdb_lt (b f)
    rw [if_neg (zz_nle (by omega) q), zg_k _ (show k < 120 by omega), zg_k _ (show k < 120 by omega), zn_k (show k < 2 ^ 31 by omega), hX 35 k (by omega), hX 36 k (by omega), a1]
    by_cases z : kdb (b f) = 2
    · rw [if_pos (show nI (kdb (b f)) = 2 by rw [z]; rfl), zbs_l, zb_s, if_neg (by decide)]
      exact ⟨_, rfl, Or.inl ⟨tk.1, z, a3.2 z⟩⟩
    · rw [if_neg (show ¬ nI (kdb (b f)) = 2 from fun y => z ((nI_eq (b := 2) (by omega) (by omega)).mp y)), zbs_r, zb_s, if_pos rfl]
      exact ⟨_, rfl, Or.inr ⟨fun y => z y.2, rfl⟩⟩
  · rw [if_pos (nI_le (by omega) (by omega)), zbs_r, zb_s, if_pos rfl]
    refine ⟨_, rfl, Or.inr ⟨fun y => ?_, rfl⟩⟩
    obtain ⟨_, _, _, (⟨z, _⟩ | ⟨_, z1, z2⟩)⟩ := h <;> omega
theorem kindAt7 {b : Nat → Int32} {n T k f t : Nat} {A X : zI} (hT : zTs b n T A) (hX : zXA A X) (hk : k ≤ T) (h : zAt b n T A k f t) : fX3_kindAt (nI k) X = some (if f < n then nI (kdb (b f)) else 0) := by
  have hT2 := hT.2.2.1
  unfold fX3_kindAt
  rw [hX 33 5 (by omega), hT.2.1, if_neg (nI_pos (by omega))]
  by_cases q : k < T
  · obtain ⟨tk, a1, a2, a3, a4⟩ := at_tok hT q h
    rw [if_neg (zz_nle (by omega) q), zg_k _ (show k < 120 by omega), zn_k (show k < 2 ^ 31 by omega), hX 35 k (by omega), a1, if_pos tk.1]
  · rw [if_pos (nI_le (by omega) (by omega)), if_neg]
    obtain ⟨_, _, _, (⟨z, _⟩ | ⟨_, z1, z2⟩)⟩ := h <;> omega
theorem beginAt7 {b : Nat → Int32} {n T k f t : Nat} {A X : zI} (hT : zTs b n T A) (hX : zXA A X) (hk : k ≤ T) (h : zAt b n T A k f t) : fX3_beginAt (nI k) X = some (nI f) := by
  have hT2 := hT.2.2.1
  unfold fX3_beginAt
  rw [hX 33 5 (by omega), hT.2.1, if_neg (nI_pos (by omega))]
  by_cases q : k < T
  · obtain ⟨tk, a1, a2, a3, a4⟩ := at_tok hT q h
    rw [if_neg (zz_nle (by omega) q), zg_k _ (show k < 120 by omega), zn_k (show k < 2 ^ 31 by omega), hX 37 k (by omega), a2]
  · rw [if_pos (nI_le (by omega) (by omega)), hX 33 1 (by omega), hT.1.2.1]
    obtain ⟨_, _, _, (⟨z, _⟩ | ⟨_, z1, z2⟩)⟩ := h
    · omega
    · rw [z1]
/-- whatever token is asked for, there is an answer -/
theorem wordAny7 {b : Nat → Int32} {n T : Nat} {A X : zI} (hT : zTs b n T A) (hX : zXA A X) (a : Int32) : ∃ v, fX3_wordAt a X = some v := by
  have hT2 := hT.2.2.1
  unfold fX3_wordAt
  rw [hX 33 5 (by omega), hT.2.1]
  by_cases q : a < 0
  · rw [if_pos q, zbs_r, zb_s, if_pos rfl]; exact ⟨_, rfl⟩
  rw [if_neg q]
  by_cases q2 : nI T ≤ a
  · rw [if_pos q2, zbs_r, zb_s, if_pos rfl]; exact ⟨_, rfl⟩
  rw [if_neg q2]
  obtain ⟨k, hk, rfl⟩ := nI_of q
  have hk2 : k < T := by
    rcases Nat.lt_or_ge k T with z | z
    · exact z
    · exact absurd (nI_le z hk) q2
  rw [zg_k _ (show k < 120 by omega), zg_k _ (show k < 120 by omega)]
  by_cases z : X 35 (zn (nI k)) = 1
  · rw [if_pos z, zbs_l, zb_s, if_neg (by decide)]; exact ⟨_, rfl⟩
  · rw [if_neg z, zbs_r, zb_s, if_pos rfl]; exact ⟨_, rfl⟩
theorem numberAny7 {b : Nat → Int32} {n T : Nat} {A X : zI} (hT : zTs b n T A) (hX : zXA A X) (a : Int32) : ∃ v, fX3_numberAt a X = some v := by
  have hT2 := hT.2.2.1
  unfold fX3_numberAt
  rw [hX 33 5 (by omega), hT.2.1]
  by_cases q : a < 0
  · rw [if_pos q, zbs_r, zb_s, if_pos rfl]; exact ⟨_, rfl⟩
  rw [if_neg q]
  by_cases q2 : nI T ≤ a
  · rw [if_pos q2, zbs_r, zb_s, if_pos rfl]; exact ⟨_, rfl⟩
  rw [if_neg q2]
  obtain ⟨k, hk, rfl⟩ := nI_of q
  have hk2 : k < T := by
    rcases Nat.lt_or_ge k T with z | z
    · exact z
    · exact absurd (nI_le z hk) q2
  rw [zg_k _ (show k < 120 by omega), zg_k _ (show k < 120 by omega)]
  by_cases z : X 35 (zn (nI k)) = 2
  · rw [if_pos z, zbs_l, zb_s, if_neg (by decide)]; exact ⟨_, rfl⟩
  · rw [if_neg z, zbs_r, zb_s, if_pos rfl]; exact ⟨_, rfl⟩
