/-! the fewest steps, on both sides -/
/-- the fewest steps by which the thing is in room r -/
def zLe (E : Nat → Nat → Prop) (s r : Nat) (v : Int32) : Prop := (v = (-1) ∧ ∀ p : Nat, p < 40 → ∀ j : Nat, ¬ zRe E s j (8 * p + r)) ∨ ∃ j : Nat, j < 320 ∧ v = nI j ∧ (∃ p : Nat, p < 40 ∧ zRe E s j (8 * p + r)) ∧ ∀ p : Nat, p < 40 → ∀ i : Nat, i < j → ¬ zRe E s i (8 * p + r)
theorem zLe_one {E : Nat → Nat → Prop} {s r : Nat} {v v' : Int32} (h : zLe E s r v) (h' : zLe E s r v') : v = v' := by
  rcases h with ⟨rfl, a⟩ | ⟨j, hj, rfl, ⟨p, hp, a⟩, b⟩
  · rcases h' with ⟨rfl, _⟩ | ⟨j', _, rfl, ⟨p', hp', a'⟩, _⟩
    · rfl
    · exact absurd a' (a p' hp' j')
  · rcases h' with ⟨rfl, a'⟩ | ⟨j', _, rfl, ⟨p', hp', a'⟩, b'⟩
    · exact absurd a (a' p hp j)
    · rcases Nat.lt_trichotomy j j' with z | z | z
      · exact absurd a (b' p hp j z)
      · rw [z]
      · exact absurd a' (b p' hp' j' z)
theorem zFw_le {E : Nat → Nat → Prop} {s k r : Nat} {v : Int32} (hk : k ≤ 320) (h : zFw E s k r v) (hz : v = (-1) → ∀ p : Nat, p < 40 → ∀ j : Nat, zRe E s j (8 * p + r) → zBk E s k (8 * p + r)) : zLe E s r v := by
  rcases h with ⟨e, a⟩ | ⟨j, hj, e, a, b⟩
  · exact Or.inl ⟨e, fun p hp j z => a p hp (hz e p hp j z)⟩
  · exact Or.inr ⟨j, by omega, e, a, fun p hp i hi z => b p hp ⟨i, hi, z⟩⟩
theorem spread_all {w s k : Nat} {I J : zI} {L : zL} {u : Int64} {a : Int32} {C R : Nat → Prop} (h : zRw w I J) (he : ∀ r : Nat, r < 8 → zEd (zE (J 51) C R) s k L r) (h0 : ∀ r : Nat, r < 8 → zSt (L 31 r) (fun _ => False)) (hu : zSt u (fun q => q % 8 = 0 ∧ C (q / 8))) (hR : ∀ l : Nat, R l ↔ ¬ a = 0 ∧ C (l + 1)) : ∃ L' : zL, zit (gX1_explore_96 1000 w a u) 1000 (0, I, L) = some (I, L') ∧ (∀ c : Nat, c ≠ 31 → L' c = L c) ∧ (∀ q : Nat, q < 8 → zSt (L' 31 q) (fun x => ∃ r : Nat, r < 8 ∧ ∃ p : Nat, p < 40 ∧ zNw (zE (J 51) C R) s k (8 * p + r) ∧ zE (J 51) C R (8 * p + r) (8 * x + q))) := by
  obtain ⟨⟨I', M⟩, e1, e2, e3, e4⟩ := zit_one (g := gX1_explore_96 1000 w a u) (fun m y => ∃ (j : Nat) (X : zL), j ≤ 8 ∧ m = 8 - j ∧ y = (nI j, I, X) ∧ (∀ c : Nat, c ≠ 31 → X c = L c) ∧ (∀ q : Nat, q < 8 → zSt (X 31 q) (fun x => ∃ r : Nat, r < j ∧ ∃ p : Nat, p < 40 ∧ zNw (zE (J 51) C R) s k (8 * p + r) ∧ zE (J 51) C R (8 * p + r) (8 * x + q)))) (fun y : zI × zL => y.1 = I ∧ (∀ c : Nat, c ≠ 31 → y.2 c = L c) ∧ (∀ q : Nat, q < 8 → zSt (y.2 31 q) (fun x => ∃ r : Nat, r < 8 ∧ ∃ p : Nat, p < 40 ∧ zNw (zE (J 51) C R) s k (8 * p + r) ∧ zE (J 51) C R (8 * p + r) (8 * x + q)))) (by
    rintro m y ⟨j, X, hj, rfl, rfl, h1, h2⟩
    unfold gX1_explore_96
    dsimp only
    by_cases q : j = 8
    · subst q
      right
      rw [if_pos (show (8 : Int32) ≤ nI 8 from Int32.le_refl _)]
      exact ⟨_, rfl, rfl, h1, h2⟩
    left
    have hj8 : j < 8 := by omega
    have hed : zSt (X 30 j) (fun p => zNw (zE (J 51) C R) s k (8 * p + j)) := by
      rw [h1 30 (by omega)]
      exact he j hj8
    rw [if_neg (show ¬ (8 : Int32) ≤ nI j from zz_nle (b := 8) (by omega) hj8), zg_k _ hj8, zn_k (show j < 2 ^ 31 by omega), nI_1]
    by_cases z : lg_cmp (X 30 j) 0 = 0
    · rw [if_pos z, zl_s]
      have z2 := (zSt_is0 hed).mp z
      refine ⟨_, 8 - (j + 1), rfl, by omega, j + 1, X, by omega, rfl, rfl, h1, fun q hq => zSt_congr (h2 q hq) fun x hx => ?_⟩
      constructor
      · rintro ⟨r, hr, y⟩; exact ⟨r, by omega, y⟩
      · rintro ⟨r, hr, p, hp, y1, y2⟩
        by_cases v : r = j
        · subst v; exact absurd y1 (z2 p hp)
        · exact ⟨r, by omega, p, hp, y1, y2⟩
    · rw [if_neg z]
      obtain ⟨X', f1, f2, f3⟩ := spread7 h hj8 hed h2 hu hR
      rw [f1, zb_s, zl_s]
      refine ⟨_, 8 - (j + 1), rfl, by omega, j + 1, X', by omega, rfl, rfl, fun c hc => (f2 c hc).trans (h1 c hc), fun q hq => zSt_congr (f3 q hq) fun x hx => ?_⟩
      constructor
      · rintro (⟨r, hr, y⟩ | ⟨p, hp, y⟩)
        · exact ⟨r, by omega, y⟩
        · exact ⟨j, by omega, p, hp, y⟩
      · rintro ⟨r, hr, p, hp, y⟩
        by_cases v : r = j
        · subst v; exact Or.inr ⟨p, hp, y⟩
        · exact Or.inl ⟨r, by omega, p, hp, y⟩) 1000 8 (0, I, L) ⟨0, L, by omega, rfl, rfl, fun _ _ => rfl, fun q hq => zSt_congr (h0 q hq) fun x hx => ⟨fun y => y.elim, fun ⟨r, hr, _⟩ => absurd hr (by omega)⟩⟩ (by omega)
  have e2 : I' = I := e2
  subst e2
  exact ⟨M, e1, e3, e4⟩
noncomputable def zbk (E : Nat → Nat → Prop) (s k x : Nat) : Bool := @decide (zBk E s k x) (Classical.propDecidable _)
theorem zbk_t {E : Nat → Nat → Prop} {s k x : Nat} : zbk E s k x = true ↔ zBk E s k x := by
  unfold zbk
  exact @decide_eq_true_iff _ (Classical.propDecidable _)
theorem ct_more {p q : Nat → Bool} {n x : Nat} (h : ∀ k : Nat, k < n → p k = true → q k = true) (hx : x < n) (h1 : p x = false) (h2 : q x = true) : fb_ct p n < fb_ct q n := by
  have a := fb_ct_upd p true hx
  rw [h1, if_neg (by decide), if_pos rfl] at a
  have b := fb_ct_sub (p := fun k => if k = x then true else p k) (q := q) (n := n) (fun k hk z => by
    by_cases y : k = x
    · rw [y]; exact h2
    · rw [if_neg y] at z; exact h k hk z)
  omega
/-- what holds as a step of the search begins -/
def zSr (E : Nat → Nat → Prop) (s k : Nat) (I I' : zI) (L : zL) : Prop := (∀ r : Nat, r < 8 → zKn E s k L r) ∧ (∀ r : Nat, r < 8 → zNx E s k L r) ∧ (∀ r : Nat, r < 8 → zFw E s k r (I' 32 r)) ∧ (∀ c : Nat, c ≠ 32 → I' c = I c) ∧ k ≤ fb_ct (zbk E s k) 320
theorem zE_lt {S : Nat → Int32} {C R : Nat → Prop} {s k x : Nat} (hs : s < 320) : zRe (zE S C R) s k x → x < 320 := by
  induction k generalizing x with
  | zero => intro h; have e : x = s := h; omega
  | succ k ih =>
    rintro (h | ⟨y, _, h⟩)
    · exact ih h
    · exact h.2.1
theorem explore_loop {w s : Nat} {I I0 J : zI} {L : zL} {u : Int64} {a g : Int32} {C R : Nat → Prop} (hw8 : w + 8 < 32) (h : zRw w I J) (hs : s < 320) (hu : zSt u (fun q => q % 8 = 0 ∧ C (q / 8))) (hR : ∀ l : Nat, R l ↔ ¬ a = 0 ∧ C (l + 1)) (hg : g = (-1) ∨ zlt 8 g) (h0 : zSr (zE (J 51) C R) s 0 I I0 L) : ∃ (I' : zI) (L' : zL), zbs (zit (gX1_explore_54 1000 w g a u) 1000 (0, I0, L)) (fun x8 : zI × zL => some (x8.1, x8.2)) = some (I', L') ∧ (∀ c : Nat, c ≠ 32 → I' c = I c) ∧ (∀ r : Nat, r < 8 → (g = (-1) ∨ g = nI r) → zLe (zE (J 51) C R) s r (I' 32 r)) := by
  obtain ⟨y, e1, I', L', e2, e3, e4⟩ := zit_one (g := gX1_explore_54 1000 w g a u) (fun m y => ∃ (k : Nat) (X : zI) (M : zL), k ≤ 320 ∧ m = 320 - k ∧ y = (nI k, X, M) ∧ zSr (zE (J 51) C R) s k I X M) (fun y : (zI × zL) ⊕ (zI × zL) => ∃ (X : zI) (M : zL), (y = .inl (X, M) ∨ y = .inr (X, M)) ∧ (∀ c : Nat, c ≠ 32 → X c = I c) ∧ (∀ r : Nat, r < 8 → (g = (-1) ∨ g = nI r) → zLe (zE (J 51) C R) s r (X 32 r))) (by
    rintro m y ⟨k, X, M, hk, rfl, rfl, s1, s2, s3, s4, s5⟩
    unfold gX1_explore_54
    dsimp only
    by_cases q : k = 320
    · subst q
      right
      rw [if_pos (show (320 : Int32) ≤ nI 320 from Int32.le_refl _)]
      refine ⟨_, rfl, X, M, Or.inr rfl, s4, fun r hr _ => zFw_le (Nat.le_refl _) (s3 r hr) fun _ p hp j _ => ?_⟩
      have hle := fb_ct_le (zbk (zE (J 51) C R) s 320) 320
      exact zbk_t.mp ((fb_ct_all (p := zbk (zE (J 51) C R) s 320) (n := 320)).mp (by omega) (8 * p + r) (by omega))
    have hk2 : k < 320 := by omega
    rw [if_neg (show ¬ (320 : Int32) ≤ nI k from zz_nle (b := 320) (by omega) hk2)]
    obtain ⟨X1, M1, t1, t2, t3, t4, t5, t6⟩ := settle7 (k := k) (by omega) s1 s2 s3
    rw [t1, zb_s]
    dsimp only
    rw [zif]
    have fr1 : ∀ c : Nat, c ≠ 32 → X1 c = I c := fun c hc => (t6 c hc).trans (s4 c hc)
    by_cases z : ∃ r : Nat, r < 8 ∧ ∃ p : Nat, p < 40 ∧ zNw (zE (J 51) C R) s k (8 * p + r)
    · rw [zite_t z]
      have cont : ∃ s' k', zb (zit (gX1_explore_96 1000 w a u) 1000 (0, X1, M1)) (fun x25 : zI × zL => zl (nI k + 1) fun v39 => some (Sum.inl (v39, x25.1, x25.2) : (Int32 × zI × zL) ⊕ ((zI × zL) ⊕ (zI × zL)))) = some (Sum.inl s') ∧ k' < 320 - k ∧ ∃ (k'' : Nat) (X : zI) (M : zL), k'' ≤ 320 ∧ k' = 320 - k'' ∧ s' = (nI k'', X, M) ∧ zSr (zE (J 51) C R) s k'' I X M := by
        have hX1 : zRw w X1 J := zRw_congr h (fun c c1 c2 => fr1 c (by omega)) rfl
        obtain ⟨M2, u1, u2, u3⟩ := spread_all hX1 t3 t4 hu hR
        rw [u1, zb_s, zl_s, nI_1]
        refine ⟨_, 320 - (k + 1), rfl, by omega, k + 1, X1, M2, by omega, rfl, rfl, fun r hr => ?_, fun r hr => ?_, t5, fr1, ?_⟩
        · have := t2 r hr
          unfold zKn at this ⊢
          rw [u2 29 (by omega)]
          exact this
        · refine ⟨_, u3 r hr, fun x hx => ?_, fun x hx hz => ?_⟩
          · rintro ⟨r1, hr1, p, hp, y1, y2⟩
            exact Or.inr ⟨_, y1.1, y2⟩
          · rcases hz with hz | ⟨y, hy, he⟩
            · exact Or.inr ⟨k, by omega, hz⟩
            · by_cases b : zBk (zE (J 51) C R) s k y
              · obtain ⟨j, hj, hb⟩ := b
                exact Or.inr ⟨j + 1, by omega, Or.inr ⟨y, hb, he⟩⟩
              · refine Or.inl ⟨y % 8, by omega, y / 8, by have := he.1; omega, ?_⟩
                rw [Nat.div_add_mod]
                exact ⟨⟨hy, b⟩, he⟩
        · obtain ⟨r, hr, p, hp, hz⟩ := z
          have := ct_more (p := zbk (zE (J 51) C R) s k) (q := zbk (zE (J 51) C R) s (k + 1)) (n := 320) (x := 8 * p + r) (fun x _ hx => zbk_t.mpr (zBk_s.mpr (Or.inl (zbk_t.mp hx)))) (by omega) (by
            cases e : zbk (zE (J 51) C R) s k (8 * p + r)
            · rfl
            · exact absurd (zbk_t.mp e) hz.2) (zbk_t.mpr (zBk_s.mpr (Or.inr hz)))
          omega
      rcases hg with hg | ⟨n, hn, hg⟩
      · rw [if_pos hg, zbs_r]
        exact Or.inl cont
      · rw [if_neg (show ¬ g = (-1) from fun y => nI_nm1 (by omega) (hg.symm.trans y)), hg, zg_k _ hn, zn_k (show n < 2 ^ 31 by omega)]
        by_cases v : X1 32 n = (-1)
        · rw [if_pos v, zbs_r]
          exact Or.inl cont
        · rw [if_neg v, zbs_l]
          refine Or.inr ⟨_, rfl, X1, M1, Or.inl rfl, fr1, fun r hr hr2 => ?_⟩
          have e : n = r := by
            rcases hr2 with y | y
            · exact absurd y (nI_nm1 (by omega))
            · exact (nI_eq (by omega) (by omega)).mp y
          subst e
          exact zFw_le (by omega) (t5 n hn) fun y => absurd y v
    · rw [zite_f z]
      refine Or.inr ⟨_, rfl, X1, M1, Or.inl rfl, fr1, fun r hr _ => zFw_le (by omega) (t5 r hr) fun _ p hp j hj => zBk_s.mpr (Or.inl ?_)⟩
      have key : ∀ j x : Nat, zRe (zE (J 51) C R) s j x → zBk (zE (J 51) C R) s k x := by
        have nz : ∀ x : Nat, zRe (zE (J 51) C R) s k x → zBk (zE (J 51) C R) s k x := by
          intro x hx
          refine Classical.byContradiction fun b => z ⟨x % 8, by omega, x / 8, by have := zE_lt hs hx; omega, ?_⟩
          rw [Nat.div_add_mod]
          exact ⟨hx, b⟩
        intro j
        induction j with
        | zero =>
          intro x hx
          exact nz x (zRe_mono hx (Nat.zero_le _))
        | succ j ih =>
          rintro x (hx | ⟨y, hy, he⟩)
          · exact ih x hx
          · obtain ⟨i, hi, hb⟩ := ih y hy
            exact nz x (zRe_mono (k := i + 1) (Or.inr ⟨y, hb, he⟩) (by omega))
      exact key j _ hj) 1000 320 (0, I0, L) ⟨0, I0, L, by omega, rfl, rfl, h0⟩ (by omega)
  refine ⟨I', L', ?_, e3, e4⟩
  rw [e1]
  rcases e2 with rfl | rfl
  · rw [zbs_l]
  · rw [zbs_r]
theorem explore7 {w i t p0 r0 : Nat} {I J : zI} {L : zL} {a g : Int32} {C R : Nat → Prop} (hw8 : w + 8 < 32) (h : zRw w I J) (hi : i < 4) (ht : t < 8) (hp : p0 < 40) (hr : r0 < 8) (ep : J 51 (52 + i) = nI p0) (er : J 51 (36 + t) = nI r0) (hC : ∀ l : Nat, C l ↔ zlg (J 51) i t l) (hR : ∀ l : Nat, R l ↔ ¬ a = 0 ∧ C (l + 1)) (hg : g = (-1) ∨ zlt 8 g) : ∃ (I' : zI) (L' : zL), fX1_explore 1000 w (nI i) (nI t) g a I L = some (I', L') ∧ (∀ c : Nat, c ≠ 32 → I' c = I c) ∧ (∀ r : Nat, r < 8 → (g = (-1) ∨ g = nI r) → zLe (zE (J 51) C R) (8 * p0 + r0) r (I' 32 r)) := by
  unfold fX1_explore
  rw [zl_s, zl_s, zl_s]
  obtain ⟨X, hX⟩ : ∃ X : zI, X = zfill I 32 8 (-1) := ⟨_, rfl⟩
  rw [← hX]
  have x1 : ∀ c : Nat, c ≠ 32 → X c = I c := fun c hc => by
    rw [hX]; unfold zfill zset; rw [if_neg hc]
  have x2 : ∀ r : Nat, r < 8 → X 32 r = (-1) := fun r hr => by
    rw [hX]; unfold zfill zset; rw [if_pos rfl, if_pos hr]
  clear hX
  have hX1 : zRw w X J := zRw_congr h (fun c c1 c2 => x1 c (by omega)) rfl
  rw [zg_k _ ht, zg_k _ hi, zn_k (show t < 2 ^ 31 by omega), zn_k (show i < 2 ^ 31 by omega), hX1.room ht, er, zg_k _ hr, zn_k (show r0 < 2 ^ 31 by omega), hX1.place hi, ep, zl_s]
  obtain ⟨N, hN⟩ : ∃ N : zL, N = zupL (zfillL (zfillL L 29 8 0) 31 8 0) 31 r0 (zshlL 1 (nI p0)) := ⟨_, rfl⟩
  rw [← hN]
  have n29 : ∀ r : Nat, r < 8 → N 29 r = 0 := fun r hr => by
    rw [hN, zupL_r (by omega)]; unfold zfillL; rw [if_neg (by omega), if_pos rfl, if_pos hr]
  have n31 : ∀ r : Nat, r < 8 → N 31 r = if r = r0 then zshlL 1 (nI p0) else 0 := fun r hr => by
    rw [hN, zupL_at]
    by_cases z : r = r0
    · rw [if_pos ⟨rfl, z⟩, if_pos z]
    · rw [if_neg (fun y => z y.2), if_neg z]; unfold zfillL; rw [if_pos rfl, if_pos hr]
  clear hN
  obtain ⟨u, u1, u2⟩ := light6 hX1 hi ht
  rw [u1, zb_s]
  have hS : zSr (zE (J 51) C R) (8 * p0 + r0) 0 X X N := by
    refine ⟨fun r hr => ?_, fun r hr => ?_, fun r hr => Or.inl ⟨x2 r hr, fun p _ ⟨j, hj, _⟩ => absurd hj (by omega)⟩, fun _ _ => rfl, Nat.zero_le _⟩
    · unfold zKn
      rw [n29 r hr]
      exact zSt_congr zSt_zero fun q _ => ⟨fun y => y.elim, fun ⟨j, hj, _⟩ => absurd hj (by omega)⟩
    · by_cases z : r = r0
      · refine ⟨fun q => q = p0, ?_, fun p hp1 e => ?_, fun p hp1 e => Or.inl ?_⟩
        · rw [n31 r hr, if_pos z]; exact zSt_one hp
        · show 8 * p + r = 8 * p0 + r0
          rw [e, z]
        · have e2 : 8 * p + r = 8 * p0 + r0 := e
          show p = p0
          omega
      · refine ⟨fun _ => False, ?_, fun p _ e => e.elim, fun p hp1 e => Or.inl ?_⟩
        · rw [n31 r hr, if_neg z]; exact zSt_zero
        · have e2 : 8 * p + r = 8 * p0 + r0 := e
          exact absurd e2 (by omega)
  obtain ⟨I', L', a1, a2, a3⟩ := explore_loop (I := X) (I0 := X) (g := g) hw8 hX1 (show 8 * p0 + r0 < 320 by omega) (zSt_congr u2 fun q _ => ⟨fun y => ⟨y.1, (hC _).mpr y.2⟩, fun y => ⟨y.1, (hC _).mp y.2⟩⟩) hR hg hS
  exact ⟨I', L', a1, fun c hc => (a2 c hc).trans (x1 c hc), a3⟩
theorem leastFor8 {S : Nat → Int32} {C R : Nat → Prop} {s r : Nat} {J : zI} (hr : r < 8) (hJ : ∀ x : Nat, x < 320 → zDi (zE S C R) s x (J 56 x)) : ∃ v : Int32, fX8_leastFor 1000 (nI r) J = some v ∧ zLe (zE S C R) s r v := by
  obtain ⟨v, e1, e2⟩ := zit_one (g := gX8_leastFor_4 (nI r) J) (fun m y => ∃ (j : Nat) (v : Int32), j ≤ 40 ∧ m = 40 - j ∧ y = (v, nI j) ∧ ((v = (-1) ∧ ∀ p : Nat, p < j → ∀ n : Nat, ¬ zRe (zE S C R) s n (8 * p + r)) ∨ ∃ d : Nat, d < 320 ∧ v = nI d ∧ (∃ p : Nat, p < j ∧ zRe (zE S C R) s d (8 * p + r)) ∧ ∀ p : Nat, p < j → ∀ i : Nat, i < d → ¬ zRe (zE S C R) s i (8 * p + r))) (fun v : Int32 => zLe (zE S C R) s r v) (by
    rintro m y ⟨j, v, hj, rfl, rfl, hv⟩
    unfold gX8_leastFor_4
    dsimp only
    by_cases q : j = 40
    · subst q
      right
      rw [if_pos (show (40 : Int32) ≤ nI 40 from Int32.le_refl _)]
      exact ⟨v, rfl, hv⟩
    left
    have hj2 : j < 40 := by omega
    rw [if_neg (show ¬ (40 : Int32) ≤ nI j from zz_nle (b := 40) (by omega) hj2), ix_2, zg_k _ (show 8 * j + r < 320 by omega), zn_k (show 8 * j + r < 2 ^ 31 by omega), zl_s, nI_1]
    have split : ∀ p : Nat, p < j + 1 → p = j ∨ p < j := fun p hp => by omega
    rcases hJ (8 * j + r) (by omega) with ⟨e, a⟩ | ⟨k, hk, e, a, b⟩
    · rw [e, if_pos (by decide), zl_s]
      refine ⟨_, 40 - (j + 1), rfl, by omega, j + 1, v, by omega, rfl, rfl, ?_⟩
      rcases hv with ⟨ev, hv⟩ | ⟨d, hd, ev, ⟨p, hp, hz⟩, hv⟩
      · refine Or.inl ⟨ev, fun p hp n => ?_⟩
        rcases split p hp with z | z
        · rw [z]; exact a n
        · exact hv p z n
      · refine Or.inr ⟨d, hd, ev, ⟨p, by omega, hz⟩, fun p hp i hi => ?_⟩
        rcases split p hp with z | z
        · rw [z]; exact a i
        · exact hv p z i hi
    · rw [e, if_neg (nI_pos (by omega))]
      rcases hv with ⟨ev, hv⟩ | ⟨d, hd, ev, ⟨p, hp, hz⟩, hv⟩
      · rw [ev, if_pos (by decide), zl_s]
        refine ⟨_, 40 - (j + 1), rfl, by omega, j + 1, _, by omega, rfl, rfl, Or.inr ⟨k, hk, rfl, ⟨j, by omega, a⟩, fun p hp i hi => ?_⟩⟩
        rcases split p hp with z | z
        · rw [z]; exact b i hi
        · exact hv p z i
      · rw [ev, if_neg (nI_pos (by omega))]
        by_cases z : d ≤ k
        · rw [if_pos (nI_le z (by omega)), zl_s]
          refine ⟨_, 40 - (j + 1), rfl, by omega, j + 1, _, by omega, rfl, rfl, Or.inr ⟨d, hd, rfl, ⟨p, by omega, hz⟩, fun p hp i hi => ?_⟩⟩
          rcases split p hp with z | z
          · rw [z]; exact b i (by omega)
          · exact hv p z i hi
        · rw [if_neg (zz_nle (by omega) (by omega)), zl_s]
          refine ⟨_, 40 - (j + 1), rfl, by omega, j + 1, _, by omega, rfl, rfl, Or.inr ⟨k, hk, rfl, ⟨j, by omega, a⟩, fun p hp i hi => ?_⟩⟩
          rcases split p hp with z | z
          · rw [z]; exact b i hi
          · exact hv p z i (by omega)) 1000 40 (-1, 0) ⟨0, -1, by omega, rfl, rfl, Or.inl ⟨rfl, fun p hp => absurd hp (by omega)⟩⟩ (by omega)
  unfold fX8_leastFor
  rw [e1, zb_s]
  exact ⟨v, rfl, e2⟩
