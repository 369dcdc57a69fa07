/-! texts: bytes and tokens -/
def kdb (v : Int32) : Nat := if 97 ≤ v.toInt ∧ v.toInt ≤ 122 then 1 else if 48 ≤ v.toInt ∧ v.toInt ≤ 57 then 2 else if v.toInt = 59 then 3 else if v.toInt = 32 then 4 else 5
theorem kdb_1 {v : Int32} : kdb v = 1 ↔ 97 ≤ v.toInt ∧ v.toInt ≤ 122 := by
  unfold kdb
  by_cases a : 97 ≤ v.toInt ∧ v.toInt ≤ 122
  · rw [if_pos a]; exact ⟨fun _ => a, fun _ => rfl⟩
  · rw [if_neg a]
    refine ⟨fun z => ?_, fun z => absurd z a⟩
    exfalso
    revert z
    repeat' split
    all_goals intro z
    all_goals omega
theorem kdb_2 {v : Int32} : kdb v = 2 ↔ 48 ≤ v.toInt ∧ v.toInt ≤ 57 := by
  unfold kdb
  by_cases a : 97 ≤ v.toInt ∧ v.toInt ≤ 122
  · rw [if_pos a]; exact ⟨fun z => absurd z (by decide), fun z => by omega⟩
  · rw [if_neg a]
    by_cases b : 48 ≤ v.toInt ∧ v.toInt ≤ 57
    · rw [if_pos b]; exact ⟨fun _ => b, fun _ => rfl⟩
    · rw [if_neg b]
      refine ⟨fun z => ?_, fun z => absurd z b⟩
      exfalso
      revert z
      repeat' split
      all_goals intro z
      all_goals omega
theorem kdb_3 {v : Int32} : kdb v = 3 ↔ v.toInt = 59 := by
  unfold kdb
  by_cases a : 97 ≤ v.toInt ∧ v.toInt ≤ 122
  · rw [if_pos a]; exact ⟨fun z => absurd z (by decide), fun z => by omega⟩
  rw [if_neg a]
  by_cases b : 48 ≤ v.toInt ∧ v.toInt ≤ 57
  · rw [if_pos b]; exact ⟨fun z => absurd z (by decide), fun z => by omega⟩
  rw [if_neg b]
  by_cases c : v.toInt = 59
  · rw [if_pos c]; exact ⟨fun _ => c, fun _ => rfl⟩
  rw [if_neg c]
  by_cases d : v.toInt = 32
  · rw [if_pos d]; exact ⟨fun z => absurd z (by decide), fun z => absurd z c⟩
  · rw [if_neg d]; exact ⟨fun z => absurd z (by decide), fun z => absurd z c⟩
theorem kdb_4 {v : Int32} : kdb v = 4 ↔ v.toInt = 32 := by
  unfold kdb
  by_cases a : 97 ≤ v.toInt ∧ v.toInt ≤ 122
  · rw [if_pos a]; exact ⟨fun z => absurd z (by decide), fun z => by omega⟩
  rw [if_neg a]
  by_cases b : 48 ≤ v.toInt ∧ v.toInt ≤ 57
  · rw [if_pos b]; exact ⟨fun z => absurd z (by decide), fun z => by omega⟩
  rw [if_neg b]
  by_cases c : v.toInt = 59
  · rw [if_pos c]; exact ⟨fun z => absurd z (by decide), fun z => by omega⟩
  rw [if_neg c]
  by_cases d : v.toInt = 32
  · rw [if_pos d]; exact ⟨fun _ => d, fun _ => rfl⟩
  · rw [if_neg d]; exact ⟨fun z => absurd z (by decide), fun z => absurd z d⟩
theorem kdb_lt (v : Int32) : kdb v < 6 ∧ 0 < kdb v := by
  unfold kdb
  repeat' split
  all_goals omega
theorem rng7 {α : Type} {v lo hi : Int32} {x : α} {K : Unit → Option α} : zbs (if v < lo then some (.inr ()) else if hi < v then some (.inr ()) else some (.inl x)) K = if lo.toInt ≤ v.toInt ∧ v.toInt ≤ hi.toInt then some x else K () := by
  by_cases h1 : v < lo
  · rw [if_pos h1, zbs_r, if_neg]
    rw [Int32.lt_iff_toInt_lt] at h1
    omega
  · rw [if_neg h1]
    rw [Int32.lt_iff_toInt_lt] at h1
    by_cases h2 : hi < v
    · rw [if_pos h2, zbs_r, if_neg]
      rw [Int32.lt_iff_toInt_lt] at h2
      omega
    · rw [if_neg h2, zbs_l, if_pos]
      rw [Int32.lt_iff_toInt_lt] at h2
      omega
theorem eqI_iff {v w : Int32} : v = w ↔ v.toInt = w.toInt := ⟨fun z => by rw [z], fun z => Int32.toInt_inj.mp z⟩
theorem kindOf7 (v : Int32) : fX3_kindOf v = some (nI (kdb v)) := by
  unfold fX3_kindOf kdb
  rw [rng7, rng7, show (97 : Int32).toInt = 97 from rfl, show (122 : Int32).toInt = 122 from rfl, show (48 : Int32).toInt = 48 from rfl, show (57 : Int32).toInt = 57 from rfl]
  by_cases a : 97 ≤ v.toInt ∧ v.toInt ≤ 122
  · rw [if_pos a, if_pos a]; rfl
  rw [if_neg a, if_neg a]
  by_cases b : 48 ≤ v.toInt ∧ v.toInt ≤ 57
  · rw [if_pos b, if_pos b]; rfl
  rw [if_neg b, if_neg b]
  by_cases c : v.toInt = 59
  · rw [if_pos c, if_pos (show v = 59 from eqI_iff.mpr c)]; rfl
  rw [if_neg c, if_neg (fun z => c (eqI_iff.mp z))]
  by_cases d : v.toInt = 32
  · rw [if_pos d, if_pos (show v = 32 from eqI_iff.mpr d)]; rfl
  · rw [if_neg d, if_neg (fun z => d (eqI_iff.mp z))]; rfl
/-- the tape of the reference: its bytes, how many -/
def zY (b : Nat → Int32) (n : Nat) (Y : zI) : Prop := (∀ k : Nat, k < 120 → Y 54 k = b k) ∧ Y 50 5 = nI n ∧ n ≤ 120
theorem isByte8 {b : Nat → Int32} {n x : Nat} {Y : zI} (h : zY b n Y) (hx : x < 2 ^ 31) (lo hi : Int32) : fX8_isByte (nI x) lo hi Y = some (zp (x < n ∧ lo.toInt ≤ (b x).toInt ∧ (b x).toInt ≤ hi.toInt)) := by
  obtain ⟨h1, h2, h3⟩ := h
  unfold fX8_isByte
  rw [h2]
  by_cases q : x < n
  · rw [if_neg (zz_nle (by omega) q), zg_k _ (show x < 120 by omega), zn_k hx, h1 x (by omega), within8I, zb_s, zif, Int32.toInt_toInt64, Int32.toInt_toInt64]
    by_cases z : zbt lo.toInt hi.toInt (b x)
    · rw [zite_t z, zp_t ⟨q, z.1, z.2⟩]
    · rw [zite_f z, zp_f (fun y => z ⟨y.2.1, y.2.2⟩)]
  · rw [if_pos (nI_le (by omega) hx), zp_f (fun y => q y.1)]
theorem zp_eq {p q : Prop} (h : p ↔ q) : zp p = zp q := by rw [propext h]
theorem isBlank8 {b : Nat → Int32} {n x : Nat} {Y : zI} (h : zY b n Y) (hx : x < 2 ^ 31) : fX8_isByte (nI x) 32 32 Y = some (zp (x < n ∧ kdb (b x) = 4)) := by
  rw [isByte8 h hx, zp_eq]
  rw [kdb_4, show (32 : Int32).toInt = 32 from rfl]
  omega
theorem isLetter8 {b : Nat → Int32} {n x : Nat} {Y : zI} (h : zY b n Y) (hx : x < 2 ^ 31) : fX8_isByte (nI x) 97 122 Y = some (zp (x < n ∧ kdb (b x) = 1)) := by
  rw [isByte8 h hx, zp_eq]
  rw [kdb_1]
  exact Iff.rfl
theorem isDigit8 {b : Nat → Int32} {n x : Nat} {Y : zI} (h : zY b n Y) (hx : x < 2 ^ 31) : fX8_isByte (nI x) 48 57 Y = some (zp (x < n ∧ kdb (b x) = 2)) := by
  rw [isByte8 h hx, zp_eq]
  rw [kdb_2]
  exact Iff.rfl
/-- f: where the next token from p on begins -/
def zNext (b : Nat → Int32) (n p f : Nat) : Prop := p ≤ f ∧ f ≤ n ∧ (∀ x : Nat, p ≤ x → x < f → kdb (b x) = 4) ∧ (f < n → ¬ kdb (b f) = 4)
/-- a token, from f to t -/
def zTok (b : Nat → Int32) (n f t : Nat) : Prop := f < n ∧ ¬ kdb (b f) = 4 ∧ f < t ∧ t ≤ n ∧ (((kdb (b f) = 1 ∨ kdb (b f) = 2) ∧ (∀ x : Nat, f < x → x < t → kdb (b x) = kdb (b f)) ∧ (t < n → ¬ kdb (b t) = kdb (b f))) ∨ (¬ (kdb (b f) = 1 ∨ kdb (b f) = 2) ∧ t = f + 1))
theorem next_det {b : Nat → Int32} {n p f g : Nat} (h : zNext b n p f) (k : zNext b n p g) : f = g := by
  obtain ⟨a1, a2, a3, a4⟩ := h
  obtain ⟨b1, b2, b3, b4⟩ := k
  rcases Nat.lt_trichotomy f g with z | z | z
  · exact absurd (b3 f a1 z) (a4 (by omega))
  · exact z
  · exact absurd (a3 g b1 z) (b4 (by omega))
theorem tok_det {b : Nat → Int32} {n f t u : Nat} (h : zTok b n f t) (k : zTok b n f u) : t = u := by
  obtain ⟨a1, a2, a3, a4, a5⟩ := h
  obtain ⟨b1, b2, b3, b4, b5⟩ := k
  rcases a5 with ⟨c, d1, d2⟩ | ⟨c, d⟩
  · rcases b5 with ⟨_, e1, e2⟩ | ⟨c2, _⟩
    · rcases Nat.lt_trichotomy t u with z | z | z
      · exact absurd (e1 t a3 z) (d2 (by omega))
      · exact z
      · exact absurd (d1 u b3 z) (e2 (by omega))
    · exact absurd c c2
  · rcases b5 with ⟨c2, _⟩ | ⟨_, e⟩
    · exact absurd c2 c
    · omega
theorem skip8 {b : Nat → Int32} {n p : Nat} {Y : zI} (h : zY b n Y) (hp : p ≤ n) (e : Y 50 13 = nI p) : ∃ (Y' : zI) (f : Nat), zit gX8_next_8 1000 Y = some Y' ∧ zNext b n p f ∧ Y' 50 13 = nI f ∧ ∀ c s : Nat, ¬ (c = 50 ∧ s = 13) → Y' c s = Y c s := by
  have hn := h.2.2
  obtain ⟨X, x1, f, x2⟩ := zit_one (g := gX8_next_8) (fun k X => ∃ q : Nat, p ≤ q ∧ q ≤ n ∧ k = n - q ∧ X 50 13 = nI q ∧ (∀ x : Nat, p ≤ x → x < q → kdb (b x) = 4) ∧ ∀ c s : Nat, ¬ (c = 50 ∧ s = 13) → X c s = Y c s) (fun X : zI => ∃ f : Nat, zNext b n p f ∧ X 50 13 = nI f ∧ ∀ c s : Nat, ¬ (c = 50 ∧ s = 13) → X c s = Y c s) (by
    rintro k X ⟨q, q1, q2, rfl, q3, q4, q5⟩
    have hX : zY b n X := ⟨fun k hk => (q5 54 k (by omega)).trans (h.1 k hk), (q5 50 5 (by omega)).trans h.2.1, hn⟩
    unfold gX8_next_8
    rw [q3, isBlank8 hX (by omega), zb_s, zif]
    by_cases z : q < n ∧ kdb (b q) = 4
    · left
      rw [zite_t z, zl_s, nI_1]
      refine ⟨_, n - (q + 1), rfl, by omega, q + 1, by omega, by omega, rfl, zup_s, fun x x1 x2 => ?_, fun c s hc => (zup_r hc).trans (q5 c s hc)⟩
      by_cases y : x = q
      · rw [y]; exact z.2
      · exact q4 x x1 (by omega)
    · right
      rw [zite_f z]
      exact ⟨X, rfl, q, ⟨q1, q2, q4, fun y w => z ⟨y, w⟩⟩, q3, q5⟩) 1000 (n - p) Y ⟨p, Nat.le_refl _, hp, rfl, e, fun x x1 x2 => absurd x2 (by omega), fun _ _ _ => rfl⟩ (by omega)
  exact ⟨X, f, x1, x2⟩
theorem run8 {b : Nat → Int32} {n f : Nat} {Y : zI} (h : zY b n Y) (hf : f ≤ n) (e : Y 50 14 = nI f) : ∃ (Y' : zI) (t : Nat), zit (gX8_next_70 (zp (f < n ∧ kdb (b f) = 1)) (zp (f < n ∧ kdb (b f) = 2))) 1000 Y = some Y' ∧ Y' 50 14 = nI t ∧ (∀ c s : Nat, ¬ (c = 50 ∧ s = 14) → Y' c s = Y c s) ∧ ((f < n ∧ (kdb (b f) = 1 ∨ kdb (b f) = 2) ∧ f < t ∧ t ≤ n ∧ (∀ x : Nat, f < x → x < t → kdb (b x) = kdb (b f)) ∧ (t < n → ¬ kdb (b t) = kdb (b f))) ∨ (¬ (f < n ∧ (kdb (b f) = 1 ∨ kdb (b f) = 2)) ∧ t = f)) := by
  have hn := h.2.2
  by_cases w : f < n ∧ (kdb (b f) = 1 ∨ kdb (b f) = 2)
  · obtain ⟨X, x1, t, x2, x3, x4⟩ := zit_one (g := gX8_next_70 (zp (f < n ∧ kdb (b f) = 1)) (zp (f < n ∧ kdb (b f) = 2))) (fun k X => ∃ t : Nat, f ≤ t ∧ t ≤ n ∧ k = n - t ∧ X 50 14 = nI t ∧ (∀ x : Nat, f ≤ x → x < t → kdb (b x) = kdb (b f)) ∧ ∀ c s : Nat, ¬ (c = 50 ∧ s = 14) → X c s = Y c s) (fun X : zI => ∃ t : Nat, X 50 14 = nI t ∧ (∀ c s : Nat, ¬ (c = 50 ∧ s = 14) → X c s = Y c s) ∧ f < t ∧ t ≤ n ∧ (∀ x : Nat, f < x → x < t → kdb (b x) = kdb (b f)) ∧ (t < n → ¬ kdb (b t) = kdb (b f))) (by
      rintro k X ⟨t, t1, t2, rfl, t3, t4, t5⟩
      have hX : zY b n X := ⟨fun k hk => (t5 54 k (by omega)).trans (h.1 k hk), (t5 50 5 (by omega)).trans h.2.1, hn⟩
      have stop : ¬ (t < n ∧ kdb (b t) = kdb (b f)) → ∃ t' : Nat, X 50 14 = nI t' ∧ (∀ c s : Nat, ¬ (c = 50 ∧ s = 14) → X c s = Y c s) ∧ f < t' ∧ t' ≤ n ∧ (∀ x : Nat, f < x → x < t' → kdb (b x) = kdb (b f)) ∧ (t' < n → ¬ kdb (b t') = kdb (b f)) := by
        intro z
        have : t ≠ f := fun y => z (by rw [y]; exact ⟨w.1, rfl⟩)
        exact ⟨t, t3, t5, by omega, t2, fun x x1 x2 => t4 x (by omega) x2, fun y v => z ⟨y, v⟩⟩
      have go : (t < n ∧ kdb (b t) = kdb (b f)) → ∃ (s' : zI) (k' : Nat), zup X 50 14 (nI (t + 1)) = s' ∧ k' < n - t ∧ ∃ t : Nat, f ≤ t ∧ t ≤ n ∧ k' = n - t ∧ s' 50 14 = nI t ∧ (∀ x : Nat, f ≤ x → x < t → kdb (b x) = kdb (b f)) ∧ ∀ c s : Nat, ¬ (c = 50 ∧ s = 14) → s' c s = Y c s := by
        intro z
        refine ⟨_, n - (t + 1), rfl, by omega, t + 1, by omega, by omega, rfl, zup_s, fun x x1 x2 => ?_, fun c s hc => (zup_r hc).trans (t5 c s hc)⟩
        by_cases y : x = t
        · rw [y]; exact z.2
        · exact t4 x x1 (by omega)
      unfold gX8_next_70
      rw [t3, zif, zif, isLetter8 hX (by omega), isDigit8 hX (by omega), zb_s, zb_s, zif, zif, nI_1]
      rcases w.2 with k1 | k2
      · rw [zite_t (show f < n ∧ kdb (b f) = 1 from ⟨w.1, k1⟩), zite_f (show ¬ (f < n ∧ kdb (b f) = 2) from fun y => by rw [k1] at y; exact absurd y.2 (by decide))]
        by_cases z : t < n ∧ kdb (b t) = 1
        · left
          rw [zite_t z, zl_s, zbs_l]
          obtain ⟨s', k', g1, g2⟩ := go ⟨z.1, z.2.trans k1.symm⟩
          exact ⟨s', k', by rw [g1], g2⟩
        · right
          rw [zite_f z, zbs_r]
          exact ⟨X, rfl, stop (fun y => z ⟨y.1, y.2.trans k1⟩)⟩
      · rw [zite_f (show ¬ (f < n ∧ kdb (b f) = 1) from fun y => by rw [k2] at y; exact absurd y.2 (by decide)), zbs_r, zite_t (show f < n ∧ kdb (b f) = 2 from ⟨w.1, k2⟩)]
        by_cases z : t < n ∧ kdb (b t) = 2
        · left
          rw [zite_t z, zl_s]
          obtain ⟨s', k', g1, g2⟩ := go ⟨z.1, z.2.trans k2.symm⟩
          exact ⟨s', k', by rw [g1], g2⟩
        · right
          rw [zite_f z]
          exact ⟨X, rfl, stop (fun y => z ⟨y.1, y.2.trans k2⟩)⟩) 1000 (n - f) Y ⟨f, Nat.le_refl _, hf, rfl, e, fun x x1 x2 => absurd x2 (by omega), fun _ _ _ => rfl⟩ (by omega)
    exact ⟨X, t, x1, x2, x3, Or.inl ⟨w.1, w.2, x4⟩⟩
  · refine ⟨Y, f, zit_r (n := 999) ?_, e, fun _ _ _ => rfl, Or.inr ⟨w, rfl⟩⟩
    unfold gX8_next_70
    rw [zif, zif, zite_f (show ¬ (f < n ∧ kdb (b f) = 1) from fun y => w ⟨y.1, Or.inl y.2⟩), zbs_r, zite_f (show ¬ (f < n ∧ kdb (b f) = 2) from fun y => w ⟨y.1, Or.inr y.2⟩)]
/-- where the reference stands: a token from f to t, or the end -/
def zHere (b : Nat → Int32) (n f t : Nat) : Prop := (f < n ∧ zTok b n f t) ∨ (f = n ∧ t = n)
theorem next8 {b : Nat → Int32} {n p : Nat} {Y : zI} (h : zY b n Y) (hp : p ≤ n) (e : Y 50 14 = nI p) : ∃ (Y' : zI) (f t : Nat), fX8_next 1000 Y = some Y' ∧ zNext b n p f ∧ zHere b n f t ∧ Y' 50 13 = nI f ∧ Y' 50 14 = nI t ∧ ∀ c s : Nat, ¬ (c = 50 ∧ (s = 13 ∨ s = 14)) → Y' c s = Y c s := by
  have hn := h.2.2
  unfold fX8_next
  rw [zl_s, e]
  obtain ⟨Y1, f, a1, a2, a3, a4⟩ := skip8 (Y := zup Y 50 13 (nI p)) (p := p) ⟨fun k hk => (zup_r (by omega)).trans (h.1 k hk), (zup_r (by omega)).trans h.2.1, hn⟩ hp zup_s
  have h1 : zY b n (zup Y1 50 14 (nI f)) := ⟨fun k hk => (zup_r (by omega)).trans ((a4 54 k (by omega)).trans ((zup_r (by omega)).trans (h.1 k hk))), (zup_r (by omega)).trans ((a4 50 5 (by omega)).trans ((zup_r (by omega)).trans h.2.1)), hn⟩
  have hf := a2.2.1
  rw [a1, zb_s, a3, zl_s, show zup Y1 50 14 (nI f) 50 13 = nI f from (zup_r (by omega)).trans a3, isLetter8 h1 (by omega), isDigit8 h1 (by omega), zb_s, zb_s]
  obtain ⟨Y2, t, b1, b2, b3, b4⟩ := run8 h1 hf zup_s
  have fr : ∀ c s : Nat, ¬ (c = 50 ∧ (s = 13 ∨ s = 14)) → Y2 c s = Y c s := fun c s hc => by
    rw [b3 c s (by omega), zup_r (by omega), a4 c s (by omega), zup_r (by omega)]
  have e13 : Y2 50 13 = nI f := by rw [b3 50 13 (by omega), zup_r (by omega)]; exact a3
  have e5 : Y2 50 5 = nI n := (fr 50 5 (by omega)).trans h.2.1
  rw [b1, zb_s, zif, zif, b2, e5, e13, Int32.add_zero, nI_1]
  have out : ∀ (v : Nat), zHere b n f v → ∃ (Y' : zI) (f t : Nat), (zl (zup Y2 50 14 (nI v)) fun J40 => some J40) = some Y' ∧ zNext b n p f ∧ zHere b n f t ∧ Y' 50 13 = nI f ∧ Y' 50 14 = nI t ∧ ∀ c s : Nat, ¬ (c = 50 ∧ (s = 13 ∨ s = 14)) → Y' c s = Y c s := by
    intro v hv
    rw [zl_s]
    exact ⟨_, f, v, rfl, a2, hv, (zup_r (by omega)).trans e13, zup_s, fun c s hc => (zup_r (by omega)).trans (fr c s hc)⟩
  have a24 := a2.2.2.2
  rcases b4 with ⟨c1, c2, c3, c4, c5, c6⟩ | ⟨c1, c2⟩
  · have hv : zHere b n f t := Or.inl ⟨c1, c1, a24 c1, c3, c4, Or.inl ⟨c2, c5, c6⟩⟩
    rcases c2 with k1 | k2
    · rw [zite_t (show f < n ∧ kdb (b f) = 1 from ⟨c1, k1⟩)]
      exact out t hv
    · rw [zite_f (show ¬ (f < n ∧ kdb (b f) = 1) from fun y => by rw [k2] at y; exact absurd y.2 (by decide)), zite_t (show f < n ∧ kdb (b f) = 2 from ⟨c1, k2⟩)]
      exact out t hv
  · subst c2
    rw [zite_f (show ¬ (t < n ∧ kdb (b t) = 1) from fun y => c1 ⟨y.1, Or.inl y.2⟩), zite_f (show ¬ (t < n ∧ kdb (b t) = 2) from fun y => c1 ⟨y.1, Or.inr y.2⟩)]
    by_cases q : n ≤ t
    · rw [if_pos (nI_le q (by omega))]
      exact out t (Or.inr ⟨by omega, by omega⟩)
    · rw [if_neg (zz_nle (by omega) (by omega))]
      exact out (t + 1) (Or.inl ⟨by omega, by omega, a24 (by omega), by omega, by omega, Or.inr ⟨fun y => c1 ⟨by omega, y⟩, rfl⟩⟩)
/-- the tape of the class -/
def zX7 (b : Nat → Int32) (n : Nat) (X : zI) : Prop := (∀ k : Nat, k < 120 → X 34 k = b k) ∧ X 33 1 = nI n ∧ n ≤ 120
theorem endOf7 {b : Nat → Int32} {n f : Nat} {X : zI} (h : zX7 b n X) (hf : f < n) : ∃ t : Nat, fX3_endOf 1000 (nI f) X = some (nI t) ∧ f < t ∧ t ≤ n ∧ (¬ kdb (b f) = 4 → zTok b n f t) ∧ (kdb (b f) = 4 → t = f + 1) := by
  obtain ⟨h1, h2, hn⟩ := h
  unfold fX3_endOf
  rw [zg_k _ (show f < 120 by omega), zn_k (show f < 2 ^ 31 by omega), h1 f (by omega), kindOf7, zb_s, zl_s, nI_1]
  have hk := kdb_lt (b f)
  by_cases w : kdb (b f) = 1 ∨ kdb (b f) = 2
  · obtain ⟨u, u1, t, u2, u3, u4, u5, u6⟩ := zit_one (g := gX3_endOf_24 X (nI (kdb (b f)))) (fun k s => ∃ t : Nat, f < t ∧ t ≤ n ∧ k = n - t ∧ s = nI t ∧ ∀ x : Nat, f < x → x < t → kdb (b x) = kdb (b f)) (fun s : Int32 => ∃ t : Nat, s = nI t ∧ f < t ∧ t ≤ n ∧ (∀ x : Nat, f < x → x < t → kdb (b x) = kdb (b f)) ∧ (t < n → ¬ kdb (b t) = kdb (b f))) (by
      rintro k s ⟨t, t1, t2, rfl, rfl, t3⟩
      unfold gX3_endOf_24
      rw [h2]
      by_cases q : n ≤ t
      · right
        rw [if_pos (nI_le q (by omega))]
        exact ⟨_, rfl, t, rfl, t1, t2, t3, fun y => absurd y (by omega)⟩
      · rw [if_neg (zz_nle (by omega) (by omega)), zg_k _ (show t < 120 by omega), zn_k (show t < 2 ^ 31 by omega), h1 t (by omega), kindOf7, zb_s, nI_1]
        have hk2 := kdb_lt (b t)
        by_cases z : kdb (b t) = kdb (b f)
        · left
          rw [if_pos (show nI (kdb (b t)) = nI (kdb (b f)) by rw [z]), zl_s]
          refine ⟨_, n - (t + 1), rfl, by omega, t + 1, by omega, by omega, rfl, rfl, fun x x1 x2 => ?_⟩
          by_cases y : x = t
          · rw [y]; exact z
          · exact t3 x x1 (by omega)
        · right
          rw [if_neg (fun y => z ((nI_eq (by omega) (by omega)).mp y))]
          exact ⟨_, rfl, t, rfl, t1, t2, t3, fun _ => z⟩) 1000 (n - (f + 1)) (nI (f + 1)) ⟨f + 1, by omega, by omega, rfl, rfl, fun x x1 x2 => absurd x2 (by omega)⟩ (by omega)
    have n4 : ¬ kdb (b f) = 4 := fun y => by rcases w with w | w <;> (rw [w] at y; exact absurd y (by decide))
    refine ⟨t, ?_, u3, u4, fun _ => ⟨hf, n4, u3, u4, Or.inl ⟨w, u5, u6⟩⟩, fun y => absurd y n4⟩
    rw [u1, zb_s, u2]
    by_cases z : kdb (b f) = 1
    · rw [if_pos (show nI (kdb (b f)) = 1 by rw [z]; rfl), zbs_r]
    · have z2 : kdb (b f) = 2 := w.resolve_left z
      rw [if_neg (show ¬ nI (kdb (b f)) = 1 by rw [z2]; decide), if_pos (show nI (kdb (b f)) = 2 by rw [z2]; rfl), zbs_r]
  · refine ⟨f + 1, ?_, by omega, by omega, fun y => ⟨hf, y, by omega, by omega, Or.inr ⟨w, rfl⟩⟩, fun _ => rfl⟩
    rw [if_neg (show ¬ nI (kdb (b f)) = 1 from fun y => w (Or.inl ((nI_eq (b := 1) (by omega) (by omega)).mp y))), if_neg (show ¬ nI (kdb (b f)) = 2 from fun y => w (Or.inr ((nI_eq (b := 2) (by omega) (by omega)).mp y))), zbs_l]
