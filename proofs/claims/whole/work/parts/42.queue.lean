/-! what one comes to, in how many steps: the queue of the reference (the fb_ct rows are out of kit/laws/COUNTS.to-paste) -/
def fb_ct (p : Nat → Bool) : Nat → Nat
  | 0 => 0
  | n + 1 => fb_ct p n + (if p n then 1 else 0)
theorem fb_ct_succ (p : Nat → Bool) (n : Nat) : fb_ct p (n + 1) = fb_ct p n + (if p n then 1 else 0) := rfl
theorem fb_ct_le (p : Nat → Bool) : ∀ n, fb_ct p n ≤ n
  | 0 => Nat.le_refl _
  | n + 1 => by
    have h := fb_ct_le p n
    rw [fb_ct_succ]
    split <;> omega
theorem fb_ct_step (p : Nat → Bool) (m : Nat) : ∀ n, fb_ct p m ≤ fb_ct p (m + n)
  | 0 => Nat.le_refl _
  | n + 1 => by
    have h := fb_ct_step p m n
    show fb_ct p m ≤ fb_ct p (m + n + 1)
    rw [fb_ct_succ]
    omega
theorem fb_ct_mono (p : Nat → Bool) {m n : Nat} (h : m ≤ n) : fb_ct p m ≤ fb_ct p n := by
  have := fb_ct_step p m (n - m)
  rwa [Nat.add_sub_cancel' h] at this
theorem fb_ct_cong {p q : Nat → Bool} : ∀ {n : Nat}, (∀ k, k < n → p k = q k) → fb_ct p n = fb_ct q n
  | 0, _ => rfl
  | n + 1, h => by
    rw [fb_ct_succ, fb_ct_succ, fb_ct_cong (fun k hk => h k (by omega)), h n (by omega)]
/-- one place changed -/
theorem fb_ct_out (p : Nat → Bool) (b : Bool) {i n : Nat} (h : n ≤ i) : fb_ct (fun k => if k = i then b else p k) n = fb_ct p n :=
  fb_ct_cong fun k hk => if_neg (by omega)
theorem fb_ct_upd (p : Nat → Bool) (b : Bool) {i : Nat} : ∀ {n : Nat}, i < n → fb_ct (fun k => if k = i then b else p k) n + (if p i then 1 else 0) = fb_ct p n + (if b then 1 else 0)
  | 0, h => absurd h (Nat.not_lt_zero i)
  | n + 1, h => by
    rw [fb_ct_succ, fb_ct_succ]
    rcases Nat.lt_or_ge i n with q | q
    · have := fb_ct_upd p b q
      have e : (if n = i then b else p n) = p n := if_neg (by omega)
      rw [e]
      omega
    · have e : i = n := by omega
      subst e
      rw [fb_ct_out p b (Nat.le_refl _)]
      simp only [if_true]
      omega
theorem fb_ct_sub {p q : Nat → Bool} : ∀ {n : Nat}, (∀ k, k < n → p k = true → q k = true) → fb_ct p n ≤ fb_ct q n
  | 0, _ => Nat.le_refl _
  | n + 1, h => by
    have h1 := fb_ct_sub (n := n) (p := p) (q := q) (fun k hk => h k (by omega))
    have h2 := h n (by omega)
    rw [fb_ct_succ, fb_ct_succ]
    cases hp : p n <;> cases hq : q n <;> simp_all <;> omega
theorem fb_ct_or {p q : Nat → Bool} : ∀ {n : Nat}, (∀ k, k < n → ¬ (p k = true ∧ q k = true)) → fb_ct (fun k => p k || q k) n = fb_ct p n + fb_ct q n
  | 0, _ => rfl
  | n + 1, h => by
    have h1 := fb_ct_or (n := n) (p := p) (q := q) (fun k hk => h k (by omega))
    have h2 := h n (by omega)
    rw [fb_ct_succ, fb_ct_succ, fb_ct_succ, h1]
    cases hp : p n <;> cases hq : q n <;> simp_all <;> omega
theorem fb_ct_not (p : Nat → Bool) : ∀ n, fb_ct p n + fb_ct (fun k => !p k) n = n
  | 0 => rfl
  | n + 1 => by
    have h := fb_ct_not p n
    rw [fb_ct_succ, fb_ct_succ]
    cases p n <;> simp <;> omega
theorem fb_ct_split (p : Nat → Bool) (m : Nat) : ∀ n, fb_ct p (m + n) = fb_ct p m + fb_ct (fun k => p (m + k)) n
  | 0 => rfl
  | n + 1 => by
    have h := fb_ct_split p m n
    show fb_ct p (m + n + 1) = _
    rw [fb_ct_succ, fb_ct_succ, h, Nat.add_assoc]
theorem fb_ct_zero {p : Nat → Bool} : ∀ {n : Nat}, fb_ct p n = 0 ↔ ∀ k, k < n → p k = false
  | 0 => ⟨fun _ k hk => absurd hk (Nat.not_lt_zero k), fun _ => rfl⟩
  | n + 1 => by
    have h := fb_ct_zero (p := p) (n := n)
    rw [fb_ct_succ]
    constructor
    · intro e k hk
      have e1 : fb_ct p n = 0 := by omega
      rcases Nat.lt_or_ge k n with q | q
      · exact h.mp e1 k q
      · have ek : k = n := by omega
        subst ek
        cases hp : p k
        · rfl
        · simp [hp] at e
    · intro a
      rw [h.mpr (fun k hk => a k (by omega)), a n (by omega)]
      rfl
theorem fb_ct_pos {p : Nat → Bool} {n : Nat} : 0 < fb_ct p n ↔ ∃ k, k < n ∧ p k = true := by
  constructor
  · intro h
    refine Classical.byContradiction fun hx => ?_
    have := fb_ct_zero.mpr (fun k hk => by
      cases hp : p k
      · rfl
      · exact absurd ⟨k, hk, hp⟩ hx : ∀ k, k < n → p k = false)
    omega
  · rintro ⟨k, hk, hp⟩
    rcases Nat.eq_zero_or_pos (fb_ct p n) with e | e
    · have := fb_ct_zero.mp e k hk
      rw [this] at hp
      cases hp
    · exact e
theorem fb_ct_all {p : Nat → Bool} {n : Nat} : fb_ct p n = n ↔ ∀ k, k < n → p k = true := by
  have h := fb_ct_not p n
  constructor
  · intro e k hk
    have z : fb_ct (fun k => !p k) n = 0 := by omega
    have := fb_ct_zero.mp z k hk
    cases hp : p k
    · simp [hp] at this
    · rfl
  · intro a
    have z : fb_ct (fun k => !p k) n = 0 := fb_ct_zero.mpr (fun k hk => by simp [a k hk])
    omega
/-- what is come to from s by at most so many steps -/
def zRe (E : Nat → Nat → Prop) (s : Nat) : Nat → Nat → Prop
  | 0, x => x = s
  | k + 1, x => zRe E s k x ∨ ∃ y, zRe E s k y ∧ E y x
theorem zRe_mono {E : Nat → Nat → Prop} {s k m x : Nat} (h : zRe E s k x) (hkm : k ≤ m) : zRe E s m x := by
  obtain ⟨i, rfl⟩ : ∃ i, m = k + i := ⟨m - k, by omega⟩
  clear hkm
  induction i with
  | zero => exact h
  | succ i ih => exact Or.inl ih
def zDi (E : Nat → Nat → Prop) (s x : Nat) (v : Int32) : Prop := (v = (-1) ∧ ∀ k : Nat, ¬ zRe E s k x) ∨ ∃ k : Nat, k < 320 ∧ v = nI k ∧ zRe E s k x ∧ ∀ j : Nat, j < k → ¬ zRe E s j x
theorem nI_nm1 {d : Nat} (h : d < 2 ^ 31) : ¬ nI d = (-1) := fun e => nI_pos h (by rw [e]; decide)
def qst (J : zI) (x : Nat) : Nat := zn (J 56 x)
def quu (J : zI) (i : Nat) : Nat := zn (J 57 i)
def zQ (E : Nat → Nat → Prop) (s : Nat) (J : zI) (qn : Nat) : Prop := J 50 9 = nI qn ∧ qn = fb_ct (fun x => decide (¬ J 56 x = (-1))) 320 ∧ (∀ i : Nat, i < qn → quu J i < 320 ∧ J 57 i = nI (quu J i) ∧ ¬ J 56 (quu J i) = (-1) ∧ qst J (quu J i) ≤ i) ∧ (∀ x : Nat, x < 320 → ¬ J 56 x = (-1) → J 56 x = nI (qst J x) ∧ zRe E s (qst J x) x ∧ ∃ i : Nat, i < qn ∧ quu J i = x) ∧ (∀ i j : Nat, i ≤ j → j < qn → qst J (quu J i) ≤ qst J (quu J j))
def zHi (d : Nat) (J : zI) (x : Nat) : Prop := ¬ J 56 x = (-1) ∧ qst J x ≤ d
def zFr (J J' : zI) : Prop := ∀ c s : Nat, c ≠ 56 → c ≠ 57 → ¬ (c = 50 ∧ (s = 9 ∨ s = 10)) → J' c s = J c s
def zGr (J J' : zI) (qn : Nat) : Prop := (∀ x : Nat, x < 320 → ¬ J 56 x = (-1) → J' 56 x = J 56 x) ∧ (∀ i : Nat, i < qn → J' 57 i = J 57 i) ∧ J' 50 10 = J 50 10 ∧ zFr J J'
theorem zGr.rf {J : zI} {qn : Nat} : zGr J J qn := ⟨fun _ _ _ => rfl, fun _ _ => rfl, rfl, fun _ _ _ _ _ => rfl⟩
theorem zGr.tr {J J1 J2 : zI} {q q1 : Nat} (h : zGr J J1 q) (g : zGr J1 J2 q1) (hq : q ≤ q1) : zGr J J2 q := by
  refine ⟨fun x hx hv => ?_, fun i hi => (g.2.1 i (by omega)).trans (h.2.1 i hi), g.2.2.1.trans h.2.2.1, fun c s h1 h2 h3 => (g.2.2.2 c s h1 h2 h3).trans (h.2.2.2 c s h1 h2 h3)⟩
  have e := h.1 x hx hv
  rw [← e]
  exact g.1 x hx (by rw [e]; exact hv)
theorem zQ.le {E : Nat → Nat → Prop} {s qn : Nat} {J : zI} (h : zQ E s J qn) : qn ≤ 320 := by
  rw [h.2.1]; exact fb_ct_le _ _
theorem finds8 {E : Nat → Nat → Prop} {s qn d x : Nat} {J : zI} {a1 a2 : Int32} (hQ : zQ E s J qn) (hx : x < 320) (hd : d ≤ qn) (hr : zRe E s d x) (hB : ∀ i : Nat, i < qn → qst J (quu J i) ≤ d) (he : 8 * a1 + a2 = nI x) : ∃ (J' : zI) (qn' : Nat), fX8_finds a1 a2 (nI d) J = some J' ∧ zQ E s J' qn' ∧ qn ≤ qn' ∧ (∀ i : Nat, i < qn' → qst J' (quu J' i) ≤ d) ∧ zHi d J' x ∧ zGr J J' qn := by
  have hle := hQ.le
  obtain ⟨h1, h2, h3, h4, h5⟩ := hQ
  unfold fX8_finds
  rw [zl_s, he, zg_k _ hx, zn_k (show x < 2 ^ 31 by omega)]
  by_cases q : J 56 x = (-1)
  · have hlt : qn < 320 := by
      rcases Nat.lt_or_ge qn 320 with z | z
      · exact z
      · exfalso
        have e : fb_ct (fun x => decide (¬ J 56 x = (-1))) 320 = 320 := by omega
        exact of_decide_eq_true (fb_ct_all.mp e x hx) q
    have hd31 : d < 2 ^ 31 := by omega
    rw [q, if_neg (show ¬ (0 : Int32) ≤ -1 by decide), zg_k _ hx, zl_s, show zup J 56 x (nI d) 50 9 = nI qn from (zup_r (by omega)).trans h1, zg_k _ hlt, zl_s, zl_s, zn_k (show qn < 2 ^ 31 by omega), show zup (zup J 56 x (nI d)) 57 qn (nI x) 50 9 = nI qn from (zup_r (by omega)).trans ((zup_r (by omega)).trans h1), nI_1]
    obtain ⟨Y, hY⟩ : ∃ Y : zI, Y = zup (zup (zup J 56 x (nI d)) 57 qn (nI x)) 50 9 (nI (qn + 1)) := ⟨_, rfl⟩
    rw [← hY]
    have e56 : ∀ y : Nat, Y 56 y = if y = x then nI d else J 56 y := fun y => by
      rw [hY, zup_r (by omega), zup_r (by omega), zup_at]
      by_cases z : y = x
      · rw [if_pos z, if_pos ⟨rfl, z⟩]
      · rw [if_neg z, if_neg (fun w => z w.2)]
    have e57 : ∀ y : Nat, Y 57 y = if y = qn then nI x else J 57 y := fun y => by
      rw [hY, zup_r (by omega), zup_at]
      by_cases z : y = qn
      · rw [if_pos z, if_pos ⟨rfl, z⟩]
      · rw [if_neg z, if_neg (fun w => z w.2), zup_r (by omega)]
    have e50 : Y 50 9 = nI (qn + 1) := by rw [hY, zup_s]
    have eo : ∀ c s : Nat, c ≠ 56 → c ≠ 57 → ¬ (c = 50 ∧ s = 9) → Y c s = J c s := fun c s c1 c2 c3 => by
      rw [hY, zup_r (by omega), zup_r (by omega), zup_r (by omega)]
    clear hY
    have s1 : qst Y x = d := by
      unfold qst
      rw [e56, if_pos rfl]
      exact zn_k hd31
    have s2 : ∀ y : Nat, y ≠ x → qst Y y = qst J y := fun y hy => by
      unfold qst
      rw [e56, if_neg hy]
    have u1 : quu Y qn = x := by
      unfold quu
      rw [e57, if_pos rfl]
      exact zn_k (by omega)
    have u2 : ∀ i : Nat, i ≠ qn → quu Y i = quu J i := fun i hi => by
      unfold quu
      rw [e57, if_neg hi]
    have ne : ∀ i : Nat, i < qn → quu J i ≠ x := fun i hi z => (h3 i hi).2.2.1 (by rw [z]; exact q)
    have sq : ∀ i : Nat, i < qn → qst Y (quu Y i) = qst J (quu J i) := fun i hi => by rw [u2 i (by omega), s2 _ (ne i hi)]
    have v1 : ¬ Y 56 x = (-1) := by
      rw [e56, if_pos rfl]
      exact nI_nm1 hd31
    refine ⟨Y, qn + 1, rfl, ⟨e50, ?_, fun i hi => ?_, fun y hy hv => ?_, fun i j hij hj => ?_⟩, by omega, fun i hi => ?_, ⟨v1, by omega⟩, fun y hy hv => ?_, fun i hi => ?_, eo 50 10 (by omega) (by omega) (by omega), fun c s c1 c2 c3 => eo c s c1 c2 (by omega)⟩
    · have k := fb_ct_upd (fun x => decide (¬ J 56 x = (-1))) true hx
      rw [← h2, if_neg (by rw [q]; decide), if_pos rfl] at k
      rw [← Nat.add_zero (fb_ct _ 320), ← k, Nat.add_zero, Nat.add_zero]
      refine fb_ct_cong fun y hy => ?_
      by_cases z : y = x
      · rw [if_pos z, z]; exact (decide_eq_true v1).symm
      · rw [if_neg z, e56, if_neg z]
    · by_cases z : i = qn
      · subst z
        rw [u1, s1, e57, if_pos rfl]
        exact ⟨hx, rfl, v1, hd⟩
      · have hi2 : i < qn := by omega
        obtain ⟨a, b, c, e⟩ := h3 i hi2
        rw [sq i hi2, u2 i z, e57, if_neg z, e56, if_neg (ne i hi2)]
        exact ⟨a, b, c, e⟩
    · by_cases z : y = x
      · subst z
        rw [s1, e56, if_pos rfl]
        exact ⟨rfl, hr, qn, by omega, u1⟩
      · rw [e56, if_neg z] at hv ⊢
        rw [s2 y z]
        obtain ⟨a, b, i, hi, e⟩ := h4 y hy hv
        exact ⟨a, b, i, by omega, by rw [u2 i (by omega)]; exact e⟩
    · by_cases z : j = qn
      · subst z
        rw [u1, s1]
        by_cases z2 : i = j
        · subst z2
          rw [u1, s1]
          exact Nat.le_refl _
        · rw [sq i (by omega)]; exact hB i (by omega)
      · rw [sq i (by omega), sq j (by omega)]; exact h5 i j hij (by omega)
    · by_cases z : i = qn
      · subst z
        rw [u1, s1]
        exact Nat.le_refl _
      · rw [sq i (by omega)]; exact hB i (by omega)
    · rw [e56, if_neg (fun z => hv (by rw [z]; exact q))]
    · rw [e57, if_neg (by omega)]
  · obtain ⟨a, b, i, hi, e⟩ := h4 x hx q
    have hs := (h3 i hi).2.2.2
    have hb := hB i hi
    rw [e] at hs hb
    rw [a, if_pos (nI_pos' (by omega))]
    exact ⟨J, qn, rfl, ⟨h1, h2, h3, h4, h5⟩, Nat.le_refl _, hB, ⟨q, hb⟩, zGr.rf⟩
/-- some finds on the way from J0 -/
def zW8 (E : Nat → Nat → Prop) (s d : Nat) (J0 : zI) (q0 : Nat) (J : zI) : Prop := ∃ qn : Nat, zQ E s J qn ∧ q0 ≤ qn ∧ (∀ i : Nat, i < qn → qst J (quu J i) ≤ d) ∧ zGr J0 J q0
def zKp (d : Nat) (J J' : zI) : Prop := (∀ y : Nat, y < 320 → zHi d J y → zHi d J' y) ∧ zFr J J'
theorem zKp.rf {d : Nat} {J : zI} : zKp d J J := ⟨fun _ _ h => h, fun _ _ _ _ _ => rfl⟩
theorem zKp.tr {d : Nat} {J J1 J2 : zI} (h : zKp d J J1) (g : zKp d J1 J2) : zKp d J J2 := ⟨fun y hy z => g.1 y hy (h.1 y hy z), fun c s h1 h2 h3 => (g.2 c s h1 h2 h3).trans (h.2 c s h1 h2 h3)⟩
theorem zKp.row {d : Nat} {J J' : zI} (h : zKp d J J') : J' 51 = J 51 := funext fun s => h.2 51 s (by omega) (by omega) (by omega)
theorem zGr.hi {J J' : zI} {qn d x : Nat} (h : zGr J J' qn) (hx : x < 320) (g : zHi d J x) : zHi d J' x := by
  have e := h.1 x hx g.1
  unfold zHi qst
  rw [e]
  exact g
theorem finds_W {E : Nat → Nat → Prop} {s d q0 x : Nat} {J0 J : zI} {a1 a2 : Int32} (hW : zW8 E s d J0 q0 J) (hx : x < 320) (hd : d ≤ q0) (hr : zRe E s d x) (he : 8 * a1 + a2 = nI x) : ∃ J' : zI, fX8_finds a1 a2 (nI d) J = some J' ∧ zW8 E s d J0 q0 J' ∧ zHi d J' x ∧ zKp d J J' := by
  obtain ⟨qn, hQ, h0, hB, hG⟩ := hW
  obtain ⟨J', qn', e, k1, k2, k3, k4, k5⟩ := finds8 hQ hx (by omega) hr hB he
  exact ⟨J', e, ⟨qn', k1, by omega, k3, hG.tr k5 h0⟩, k4, fun y hy hh => k5.hi hy hh, k5.2.2.2⟩
theorem ix_2 (a b : Nat) : (8 : Int32) * nI a + nI b = nI (8 * a + b) := by rw [show (8 : Int32) * nI a = nI (8 * a) from pk_mul 8 a, nI_add]
theorem steps54 {E : Nat → Nat → Prop} {s d q0 p r : Nat} {J0 J : zI} {C : Prop} (hW : zW8 E s d J0 q0 J) (hd : d ≤ q0) (hp : p < 40) (hr : r < 8) (hE1 : ∀ to : Nat, to < 8 → zop (J 51) (p % 8) to → zRe E s d (8 * (8 * (p / 8) + to) + r)) (hE2 : ∀ to : Nat, to < 8 → C → zop (J 51) (p % 8) to → zRe E s d (8 * (8 * (p / 8) + to) + to)) : ∃ J' : zI, zit (gX8_stepsFrom_54 (nI r) (nI d) (nI (p % 8)) (nI (p / 8)) (zp C)) 1000 (0, J) = some J' ∧ zW8 E s d J0 q0 J' ∧ zKp d J J' ∧ (∀ to : Nat, to < 8 → zop (J 51) (p % 8) to → zHi d J' (8 * (8 * (p / 8) + to) + r) ∧ (C → zHi d J' (8 * (8 * (p / 8) + to) + to))) := by
  refine zit_one (fun k y => ∃ (j : Nat) (X : zI), j ≤ 8 ∧ k = 8 - j ∧ y = (nI j, X) ∧ zW8 E s d J0 q0 X ∧ zKp d J X ∧ (∀ to : Nat, to < j → zop (J 51) (p % 8) to → zHi d X (8 * (8 * (p / 8) + to) + r) ∧ (C → zHi d X (8 * (8 * (p / 8) + to) + to)))) (fun J' => zW8 E s d J0 q0 J' ∧ zKp d J J' ∧ (∀ to : Nat, to < 8 → zop (J 51) (p % 8) to → zHi d J' (8 * (8 * (p / 8) + to) + r) ∧ (C → zHi d J' (8 * (8 * (p / 8) + to) + to)))) ?_ 1000 8 (0, J) ⟨0, J, by omega, rfl, rfl, hW, zKp.rf, fun to h => absurd h (by omega)⟩ (by omega)
  rintro k y ⟨j, X, hj, rfl, rfl, hX, hK, hH⟩
  unfold gX8_stepsFrom_54
  dsimp only
  by_cases q : j = 8
  · subst q
    right
    rw [if_pos (show (8 : Int32) ≤ nI 8 from Int32.le_refl _)]
    exact ⟨X, rfl, hX, hK, hH⟩
  left
  have hj8 : j < 8 := by omega
  rw [if_neg (show ¬ (8 : Int32) ≤ nI j from zz_nle (b := 8) (by omega) hj8), isOpen8 (J := X) (show p % 8 < 8 by omega), zb_s, zif, hK.row, nI_1]
  have old : ∀ (Y : zI), zKp d X Y → ∀ to : Nat, to < j → zop (J 51) (p % 8) to → zHi d Y (8 * (8 * (p / 8) + to) + r) ∧ (C → zHi d Y (8 * (8 * (p / 8) + to) + to)) := by
    intro Y hY to ht ho
    obtain ⟨a, b⟩ := hH to ht ho
    exact ⟨hY.1 _ (by omega) a, fun c => hY.1 _ (by omega) (b c)⟩
  by_cases ho : zop (J 51) (p % 8) j
  · rw [zite_t (show zshr (J 51 (p % 8)) (nI j) &&& 1 = 1 from ho)]
    obtain ⟨X1, f1, f2, f3, f4⟩ := finds_W (a1 := 8 * nI (p / 8) + nI j) (a2 := nI r) hX (x := 8 * (8 * (p / 8) + j) + r) (by omega) hd (hE1 j hj8 ho) (by rw [ix_2, ix_2])
    rw [f1, zb_s, zif]
    by_cases hC : C
    · rw [zite_t hC]
      obtain ⟨X2, g1, g2, g3, g4⟩ := finds_W (a1 := 8 * nI (p / 8) + nI j) (a2 := nI j) f2 (x := 8 * (8 * (p / 8) + j) + j) (by omega) hd (hE2 j hj8 hC ho) (by rw [ix_2, ix_2])
      rw [g1, zb_s, zl_s]
      refine ⟨_, 8 - (j + 1), rfl, by omega, j + 1, X2, by omega, rfl, rfl, g2, hK.tr (f4.tr g4), fun to ht ho2 => ?_⟩
      by_cases z : to = j
      · subst z
        exact ⟨g4.1 _ (by omega) f3, fun _ => g3⟩
      · exact old X2 (f4.tr g4) to (by omega) ho2
    · rw [zite_f hC, zl_s]
      refine ⟨_, 8 - (j + 1), rfl, by omega, j + 1, X1, by omega, rfl, rfl, f2, hK.tr f4, fun to ht ho2 => ?_⟩
      by_cases z : to = j
      · subst z
        exact ⟨f3, fun c => absurd c hC⟩
      · exact old X1 f4 to (by omega) ho2
  · rw [zite_f (show ¬ zshr (J 51 (p % 8)) (nI j) &&& 1 = 1 from ho), zl_s]
    refine ⟨_, 8 - (j + 1), rfl, by omega, j + 1, X, by omega, rfl, rfl, hX, hK, fun to ht ho2 => ?_⟩
    by_cases z : to = j
    · subst z
      exact absurd ho2 ho
    · exact hH to (by omega) ho2
theorem steps252 {E : Nat → Nat → Prop} {s d q0 p : Nat} {J0 J : zI} {R : Prop} (hW : zW8 E s d J0 q0 J) (hd : d ≤ q0) (hp : p < 40) (hE : ∀ to : Nat, to < 8 → R → zRe E s d (8 * p + to)) : ∃ J' : zI, zit (gX8_stepsFrom_252 (nI p) (nI d) (zp R)) 1000 (0, J) = some J' ∧ zW8 E s d J0 q0 J' ∧ zKp d J J' ∧ (∀ to : Nat, to < 8 → R → zHi d J' (8 * p + to)) := by
  refine zit_one (fun k y => ∃ (j : Nat) (X : zI), j ≤ 8 ∧ k = 8 - j ∧ y = (nI j, X) ∧ zW8 E s d J0 q0 X ∧ zKp d J X ∧ (∀ to : Nat, to < j → R → zHi d X (8 * p + to))) (fun J' => zW8 E s d J0 q0 J' ∧ zKp d J J' ∧ (∀ to : Nat, to < 8 → R → zHi d J' (8 * p + to))) ?_ 1000 8 (0, J) ⟨0, J, by omega, rfl, rfl, hW, zKp.rf, fun to h => absurd h (by omega)⟩ (by omega)
  rintro k y ⟨j, X, hj, rfl, rfl, hX, hK, hH⟩
  unfold gX8_stepsFrom_252
  dsimp only
  by_cases q : j = 8
  · subst q
    right
    rw [if_pos (show (8 : Int32) ≤ nI 8 from Int32.le_refl _)]
    exact ⟨X, rfl, hX, hK, hH⟩
  have hj8 : j < 8 := by omega
  rw [if_neg (show ¬ (8 : Int32) ≤ nI j from zz_nle (b := 8) (by omega) hj8), zif, nI_1]
  by_cases hR : R
  · left
    rw [zite_t hR]
    obtain ⟨X1, f1, f2, f3, f4⟩ := finds_W (a1 := nI p) (a2 := nI j) hX (x := 8 * p + j) (by omega) hd (hE j hj8 hR) (by rw [ix_2])
    rw [f1, zb_s, zl_s]
    refine ⟨_, 8 - (j + 1), rfl, by omega, j + 1, X1, by omega, rfl, rfl, f2, hK.tr f4, fun to ht hR2 => ?_⟩
    by_cases z : to = j
    · subst z
      exact f3
    · exact f4.1 _ (by omega) (hH to (by omega) hR2)
  · right
    rw [zite_f hR]
    exact ⟨X, rfl, hX, hK, fun to _ z => absurd z hR⟩
