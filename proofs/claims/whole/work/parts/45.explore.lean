/-! the search of the class, step by step -/
theorem zupL_at {L : zL} {c s : Nat} {v : Int64} {a b : Nat} : zupL L c s v a b = if a = c ∧ b = s then v else L a b := by
  unfold zupL
  by_cases h : a = c
  · subst h
    rw [if_pos rfl]
    unfold vp_updL
    by_cases h2 : b = s
    · rw [if_pos h2, if_pos ⟨rfl, h2⟩]
    · rw [if_neg h2, if_neg (fun q => h2 q.2)]
  · rw [if_neg h, if_neg (fun q => h q.1)]
theorem zupL_s {L : zL} {c s : Nat} {v : Int64} : zupL L c s v c s = v := by rw [zupL_at, if_pos ⟨rfl, rfl⟩]
theorem zupL_r {L : zL} {c s : Nat} {v : Int64} {a b : Nat} (h : ¬ (a = c ∧ b = s)) : zupL L c s v a b = L a b := by rw [zupL_at, if_neg h]
/-- reached before step k -/
def zBk (E : Nat → Nat → Prop) (s k x : Nat) : Prop := ∃ j : Nat, j < k ∧ zRe E s j x
def zNw (E : Nat → Nat → Prop) (s k x : Nat) : Prop := zRe E s k x ∧ ¬ zBk E s k x
theorem zBk_s {E : Nat → Nat → Prop} {s k x : Nat} : zBk E s (k + 1) x ↔ zBk E s k x ∨ zNw E s k x := by
  constructor
  · rintro ⟨j, hj, h⟩
    by_cases q : zBk E s k x
    · exact Or.inl q
    · refine Or.inr ⟨?_, q⟩
      by_cases z : j = k
      · subst z; exact h
      · exact absurd ⟨j, by omega, h⟩ q
  · rintro (⟨j, hj, h⟩ | ⟨h, _⟩)
    · exact ⟨j, by omega, h⟩
    · exact ⟨k, by omega, h⟩
def zKn (E : Nat → Nat → Prop) (s k : Nat) (L : zL) (r : Nat) : Prop := zSt (L 29 r) (fun p => zBk E s k (8 * p + r))
def zNx (E : Nat → Nat → Prop) (s k : Nat) (L : zL) (r : Nat) : Prop := ∃ f : Nat → Prop, zSt (L 31 r) f ∧ (∀ p : Nat, p < 40 → f p → zRe E s k (8 * p + r)) ∧ (∀ p : Nat, p < 40 → zRe E s k (8 * p + r) → f p ∨ zBk E s k (8 * p + r))
def zEd (E : Nat → Nat → Prop) (s k : Nat) (L : zL) (r : Nat) : Prop := zSt (L 30 r) (fun p => zNw E s k (8 * p + r))
def zFw (E : Nat → Nat → Prop) (s k r : Nat) (v : Int32) : Prop := (v = (-1) ∧ ∀ p : Nat, p < 40 → ¬ zBk E s k (8 * p + r)) ∨ ∃ j : Nat, j < k ∧ v = nI j ∧ (∃ p : Nat, p < 40 ∧ zRe E s j (8 * p + r)) ∧ ∀ p : Nat, p < 40 → ¬ zBk E s j (8 * p + r)
theorem zFw_old {E : Nat → Nat → Prop} {s k r : Nat} {v : Int32} (h : zFw E s k r v) (hn : ∀ p : Nat, p < 40 → ¬ zNw E s k (8 * p + r)) : zFw E s (k + 1) r v := by
  rcases h with ⟨e, a⟩ | ⟨j, hj, e, a, b⟩
  · exact Or.inl ⟨e, fun p hp z => (zBk_s.mp z).elim (a p hp) (hn p hp)⟩
  · exact Or.inr ⟨j, by omega, e, a, b⟩
theorem zFw_set {E : Nat → Nat → Prop} {s k r : Nat} {v : Int32} (h : zFw E s k r v) (hv : ¬ v = (-1)) : zFw E s (k + 1) r v := by
  rcases h with ⟨e, _⟩ | ⟨j, hj, e, a, b⟩
  · exact absurd e hv
  · exact Or.inr ⟨j, by omega, e, a, b⟩
theorem settle_step {E : Nat → Nat → Prop} {s k r : Nat} {I : zI} {L : zL} {b : Int32} (hr : r < 8) (hk : k < 2 ^ 31) (hK : zKn E s k L r) (hN : zNx E s k L r) (hF : zFw E s k r (I 32 r)) : ∃ (b' : Int32) (I' : zI) (L' : zL), gX1_settle_4 (nI k) (b, nI r, I, L) = some (.inl (b', nI (r + 1), I', L')) ∧ ((∀ p : Nat, p < 40 → ¬ zNw E s k (8 * p + r)) ∧ b' = b ∨ (∃ p : Nat, p < 40 ∧ zNw E s k (8 * p + r)) ∧ b' = 1) ∧ zKn E s (k + 1) L' r ∧ zEd E s k L' r ∧ zSt (L' 31 r) (fun _ => False) ∧ zFw E s (k + 1) r (I' 32 r) ∧ (∀ c : Nat, c ≠ 32 → I' c = I c) ∧ (∀ q : Nat, q ≠ r → I' 32 q = I 32 q) ∧ (∀ c q : Nat, q ≠ r → L' c q = L c q) := by
  obtain ⟨f, hf, f1, f2⟩ := hN
  have hed : zSt (L 31 r &&& (L 29 r ^^^ (-1))) (fun p => zNw E s k (8 * p + r)) := by
    refine zSt_congr (zSt_diff hf hK) fun p hp => ⟨fun z => ⟨f1 p hp z.1, z.2⟩, fun z => ⟨?_, z.2⟩⟩
    exact (f2 p hp z.1).resolve_right z.2
  have hkn : zSt (L 29 r ||| (L 31 r &&& (L 29 r ^^^ (-1)))) (fun p => zBk E s (k + 1) (8 * p + r)) := zSt_congr (zSt_or hK hed) fun p hp => zBk_s.symm
  unfold gX1_settle_4
  simp only [zg_k _ hr, zn_k (show r < 2 ^ 31 by omega), zl_s, nI_1]
  rw [if_neg (show ¬ (8 : Int32) ≤ nI r from zz_nle (b := 8) (by omega) hr)]
  obtain ⟨e, he⟩ : ∃ e, e = L 31 r &&& (L 29 r ^^^ (-1)) := ⟨_, rfl⟩
  obtain ⟨N, hN⟩ : ∃ N : zL, N = zupL (zupL (zupL L 30 r e) 29 r (L 29 r ||| e)) 31 r 0 := ⟨_, rfl⟩
  rw [← he] at hed hkn ⊢
  rw [show zupL L 30 r e 29 r = L 29 r from zupL_r (by omega), show zupL L 30 r e 30 r = e from zupL_s]
  rw [← hN]
  have n29 : N 29 r = L 29 r ||| e := by rw [hN, zupL_r (by omega), zupL_s]
  have n30 : N 30 r = e := by rw [hN, zupL_r (by omega), zupL_r (by omega), zupL_s]
  have n31 : N 31 r = 0 := by rw [hN, zupL_s]
  have no : ∀ c q : Nat, q ≠ r → N c q = L c q := fun c q hq => by rw [hN, zupL_r (by omega), zupL_r (by omega), zupL_r (by omega)]
  clear hN
  have k1 : zKn E s (k + 1) N r := by unfold zKn; rw [n29]; exact hkn
  have k2 : zEd E s k N r := by unfold zEd; rw [n30]; exact hed
  have k3 : zSt (N 31 r) (fun _ => False) := by rw [n31]; exact zSt_zero
  rw [n30]
  by_cases q : lg_cmp e 0 = 0
  · rw [if_pos q]
    have q2 := (zSt_is0 hed).mp q
    exact ⟨b, I, N, rfl, Or.inl ⟨q2, rfl⟩, k1, k2, k3, zFw_old hF q2, fun _ _ => rfl, fun _ _ => rfl, no⟩
  · rw [if_neg q]
    have q2 : ∃ p : Nat, p < 40 ∧ zNw E s k (8 * p + r) := by
      refine Classical.byContradiction fun z => q ((zSt_is0 hed).mpr fun p hp y => z ⟨p, hp, y⟩)
    by_cases z : I 32 r = (-1)
    · rw [if_pos z]
      refine ⟨1, _, N, rfl, Or.inr ⟨q2, rfl⟩, k1, k2, k3, ?_, fun c hc => zup_ne hc, fun x hx => zup_r (by omega), no⟩
      rw [zup_s]
      obtain ⟨p, hp, hw⟩ := q2
      refine Or.inr ⟨k, by omega, rfl, ⟨p, hp, hw.1⟩, ?_⟩
      rcases hF with ⟨_, a⟩ | ⟨j, hj, e2, _⟩
      · exact a
      · exact absurd (e2.symm.trans z) (nI_nm1 (by omega))
    · rw [if_neg z]
      exact ⟨1, I, N, rfl, Or.inr ⟨q2, rfl⟩, k1, k2, k3, zFw_set hF z, fun _ _ => rfl, fun _ _ => rfl, no⟩
theorem settle7 {E : Nat → Nat → Prop} {s k : Nat} {I : zI} {L : zL} (hk : k < 2 ^ 31) (hK : ∀ r : Nat, r < 8 → zKn E s k L r) (hN : ∀ r : Nat, r < 8 → zNx E s k L r) (hF : ∀ r : Nat, r < 8 → zFw E s k r (I 32 r)) : ∃ (I' : zI) (L' : zL), fX1_settle 1000 (nI k) I L = some (zp (∃ r : Nat, r < 8 ∧ ∃ p : Nat, p < 40 ∧ zNw E s k (8 * p + r)), I', L') ∧ (∀ r : Nat, r < 8 → zKn E s (k + 1) L' r) ∧ (∀ r : Nat, r < 8 → zEd E s k L' r) ∧ (∀ r : Nat, r < 8 → zSt (L' 31 r) (fun _ => False)) ∧ (∀ r : Nat, r < 8 → zFw E s (k + 1) r (I' 32 r)) ∧ (∀ c : Nat, c ≠ 32 → I' c = I c) := by
  obtain ⟨⟨b, I', L'⟩, e1, e2⟩ := zit_one (g := gX1_settle_4 (nI k)) (fun m y => ∃ (j : Nat) (X : zI) (M : zL), j ≤ 8 ∧ m = 8 - j ∧ y = (zp (∃ r : Nat, r < j ∧ ∃ p : Nat, p < 40 ∧ zNw E s k (8 * p + r)), nI j, X, M) ∧ (∀ r : Nat, r < j → zKn E s (k + 1) M r ∧ zEd E s k M r ∧ zSt (M 31 r) (fun _ => False) ∧ zFw E s (k + 1) r (X 32 r)) ∧ (∀ c : Nat, c ≠ 32 → X c = I c) ∧ (∀ q : Nat, j ≤ q → X 32 q = I 32 q) ∧ (∀ c q : Nat, j ≤ q → M c q = L c q)) (fun y : Int32 × zI × zL => y.1 = zp (∃ r : Nat, r < 8 ∧ ∃ p : Nat, p < 40 ∧ zNw E s k (8 * p + r)) ∧ (∀ r : Nat, r < 8 → zKn E s (k + 1) y.2.2 r ∧ zEd E s k y.2.2 r ∧ zSt (y.2.2 31 r) (fun _ => False) ∧ zFw E s (k + 1) r (y.2.1 32 r)) ∧ (∀ c : Nat, c ≠ 32 → y.2.1 c = I c)) (by
    rintro m y ⟨j, X, M, hj, rfl, rfl, h1, h2, h3, h4⟩
    by_cases q : j = 8
    · subst q
      right
      unfold gX1_settle_4
      dsimp only
      rw [if_pos (show (8 : Int32) ≤ nI 8 from Int32.le_refl _)]
      exact ⟨_, rfl, rfl, h1, h2⟩
    left
    have hj8 : j < 8 := by omega
    obtain ⟨b', X', M', f1, f2, f3, f4, f5, f6, f7, f8, f9⟩ := settle_step (E := E) (s := s) (I := X) (L := M) (b := zp (∃ r : Nat, r < j ∧ ∃ p : Nat, p < 40 ∧ zNw E s k (8 * p + r))) hj8 hk (by
      have := hK j hj8
      unfold zKn at this ⊢
      rw [h4 29 j (Nat.le_refl _)]
      exact this) (by
      have := hN j hj8
      unfold zNx at this ⊢
      rw [h4 31 j (Nat.le_refl _)]
      exact this) (by
      rw [h3 j (Nat.le_refl _)]
      exact hF j hj8)
    have hb : b' = zp (∃ r : Nat, r < j + 1 ∧ ∃ p : Nat, p < 40 ∧ zNw E s k (8 * p + r)) := by
      rcases f2 with ⟨a, e⟩ | ⟨a, e⟩
      · rw [e]
        congr 1
        apply propext
        constructor
        · rintro ⟨r, hr, z⟩; exact ⟨r, by omega, z⟩
        · rintro ⟨r, hr, p, hp, z⟩
          by_cases w : r = j
          · subst w; exact absurd z (a p hp)
          · exact ⟨r, by omega, p, hp, z⟩
      · rw [e, zp_t ⟨j, by omega, a⟩]
    rw [hb] at f1
    refine ⟨_, 8 - (j + 1), f1, by omega, j + 1, X', M', by omega, rfl, rfl, fun r hr => ?_, fun c hc => (f7 c hc).trans (h2 c hc), fun q hq => (f8 q (by omega)).trans (h3 q (by omega)), fun c q hq => (f9 c q (by omega)).trans (h4 c q (by omega))⟩
    by_cases z : r = j
    · subst z
      exact ⟨f3, f4, f5, f6⟩
    · obtain ⟨a1, a2, a3, a4⟩ := h1 r (by omega)
      refine ⟨?_, ?_, ?_, ?_⟩
      · unfold zKn at a1 ⊢; rw [f9 29 r z]; exact a1
      · unfold zEd at a2 ⊢; rw [f9 30 r z]; exact a2
      · rw [f9 31 r z]; exact a3
      · rw [f8 r z]; exact a4) 1000 8 (0, 0, I, L) ⟨0, I, L, by omega, rfl, by rw [zp_f (fun ⟨r, hr, _⟩ => absurd hr (by omega))]; rfl, fun r hr => absurd hr (by omega), fun _ _ => rfl, fun _ _ => rfl, fun _ _ _ => rfl⟩ (by omega)
  obtain ⟨g1, g2, g3⟩ := e2
  have g1 : b = _ := g1
  unfold fX1_settle
  rw [e1, zb_s]
  dsimp only
  rw [g1, zgb_p]
  exact ⟨I', L', rfl, fun r hr => (g2 r hr).1, fun r hr => (g2 r hr).2.1, fun r hr => (g2 r hr).2.2.1, fun r hr => (g2 r hr).2.2.2, g3⟩
theorem spread7 {w r : Nat} {I J : zI} {L : zL} {u : Int64} {a : Int32} {C R : Nat → Prop} {e : Nat → Prop} {g : Nat → Nat → Prop} (h : zRw w I J) (hr : r < 8) (he : zSt (L 30 r) e) (hg : ∀ k : Nat, k < 8 → zSt (L 31 k) (g k)) (hu : zSt u (fun q => q % 8 = 0 ∧ C (q / 8))) (hR : ∀ l : Nat, R l ↔ ¬ a = 0 ∧ C (l + 1)) : ∃ L' : zL, fX1_spread 1000 w (nI r) u a I L = some (I, L') ∧ (∀ c : Nat, c ≠ 31 → L' c = L c) ∧ (∀ k : Nat, k < 8 → zSt (L' 31 k) (fun q => g k q ∨ ∃ p : Nat, p < 40 ∧ e p ∧ zE (J 51) C R (8 * p + r) (8 * q + k))) := by
  obtain ⟨sm, hs8, hs⟩ := h.2.small
  have z8 : zn (J 51 8) = sm := by rw [hs]; exact zn_k (by omega)
  obtain ⟨o, o1, o2⟩ := next6 h he
  unfold fX1_spread
  simp only [zg_k _ hr, zn_k (show r < 2 ^ 31 by omega), o1, zb_s, zl_s]
  obtain ⟨N, hN⟩ : ∃ N : zL, N = zupL L 31 r (L 31 r ||| o) := ⟨_, rfl⟩
  rw [show zupL L 31 r (L 31 r ||| o) 30 r = L 30 r from zupL_r (by omega), ← hN, h.small, hs]
  have nx : ∀ k : Nat, k < 8 → zSt (N 31 k) (fun q => g k q ∨ (k = r ∧ ∃ p : Nat, p < 40 ∧ e p ∧ zstp (J 51) p q)) := by
    intro k hk
    rw [hN, zupL_at]
    by_cases z : k = r
    · subst z
      rw [if_pos ⟨rfl, rfl⟩]
      exact zSt_congr (zSt_or (hg k hk) o2) fun q hq => ⟨fun y => y.elim Or.inl (fun y => Or.inr ⟨rfl, y⟩), fun y => y.elim Or.inl (fun y => Or.inr y.2)⟩
    · rw [if_neg (fun y => z y.2)]
      exact zSt_congr (hg k hk) fun q hq => ⟨Or.inl, fun y => y.elim id (fun y => absurd y.1 z)⟩
  have no : ∀ c : Nat, c ≠ 31 → N c = L c := fun c hc => funext fun q => by rw [hN, zupL_r (by omega)]
  clear hN
  obtain ⟨x5, hx5, hx6⟩ : ∃ x5 : Int64, (if a = 0 then some 0 else some ((zushrL (L 30 r) (nI sm)) &&& (zushrL u 8))) = some x5 ∧ zSt (zshlL x5 (nI sm)) (fun q => q % 8 = sm ∧ q / 8 < 4 ∧ e q ∧ R (q / 8)) := by
    by_cases z : a = 0
    · rw [if_pos z]
      refine ⟨0, rfl, ?_⟩
      rw [show zshlL 0 (nI sm) = lN (0 * 2 ^ sm) from shlL_k 0 (by omega), Nat.zero_mul]
      exact zSt_congr zSt_zero fun q hq => ⟨fun y => y.elim, fun y => ((hR _).mp y.2.2.2).1 z⟩
    · rw [if_neg z]
      exact ⟨_, rfl, zSt_congr (st_reach he hu hs8) fun q hq => ⟨fun y => ⟨y.1, y.2.1, y.2.2.1, (hR _).mpr ⟨z, y.2.2.2⟩⟩, fun y => ⟨y.1, y.2.1, y.2.2.1, ((hR _).mp y.2.2.2).2⟩⟩⟩
  rw [hx5, zb_s]
  obtain ⟨v4, hv⟩ : ∃ v4 : Int64, v4 = (zushrL (L 30 r) (nI r)) &&& u := ⟨_, rfl⟩
  rw [← hv]
  have hc : ∀ k : Nat, k < 8 → zSt (zshlL v4 (nI k)) (fun q => q % 8 = k ∧ e (8 * (q / 8) + r) ∧ C (q / 8)) := fun k hk => by rw [hv]; exact st_carry he hu hr hk
  clear hv
  obtain ⟨M, e1, e2, e3⟩ := zit_one (g := gX1_spread_61 w (nI r) I v4 x5) (fun m y => ∃ (j : Nat) (X : zL), j ≤ 8 ∧ m = 8 - j ∧ y = (nI j, X) ∧ (∀ c : Nat, c ≠ 31 → X c = L c) ∧ (∀ k : Nat, k < 8 → zSt (X 31 k) (fun q => (g k q ∨ (k = r ∧ ∃ p : Nat, p < 40 ∧ e p ∧ zstp (J 51) p q)) ∨ (k < j ∧ ((zop (J 51) r k ∧ q % 8 = k ∧ e (8 * (q / 8) + r) ∧ C (q / 8)) ∨ (q % 8 = sm ∧ q / 8 < 4 ∧ e q ∧ R (q / 8))))))) (fun X : zL => (∀ c : Nat, c ≠ 31 → X c = L c) ∧ (∀ k : Nat, k < 8 → zSt (X 31 k) (fun q => (g k q ∨ (k = r ∧ ∃ p : Nat, p < 40 ∧ e p ∧ zstp (J 51) p q)) ∨ ((zop (J 51) r k ∧ q % 8 = k ∧ e (8 * (q / 8) + r) ∧ C (q / 8)) ∨ (q % 8 = sm ∧ q / 8 < 4 ∧ e q ∧ R (q / 8)))))) (by
    rintro m y ⟨j, X, hj, rfl, rfl, h1, h2⟩
    unfold gX1_spread_61
    dsimp only
    by_cases q : j = 8
    · subst q
      right
      rw [if_pos (show (8 : Int32) ≤ nI 8 from Int32.le_refl _)]
      refine ⟨X, rfl, h1, fun k hk => zSt_congr (h2 k hk) fun q hq => ⟨fun y => y.elim Or.inl (fun y => Or.inr y.2), fun y => y.elim Or.inl (fun y => Or.inr ⟨hk, y⟩)⟩⟩
    left
    have hj8 : j < 8 := by omega
    simp only [zg_k _ hj8, zn_k (show j < 2 ^ 31 by omega), zl_s, nI_1, h.small, hs]
    rw [if_neg (show ¬ (8 : Int32) ≤ nI j from zz_nle (b := 8) (by omega) hj8), isOpen6 h hr, zb_s, zif]
    by_cases ho : zop (J 51) r j
    · rw [zite_t (show zshr (J 51 r) (nI j) &&& 1 = 1 from ho)]
      refine ⟨_, 8 - (j + 1), rfl, by omega, j + 1, _, by omega, rfl, rfl, fun c hc => funext fun q => by rw [zupL_r (by omega), zupL_r (by omega), h1 c hc], fun k hk => ?_⟩
      by_cases z : k = j
      · subst z
        rw [zupL_s, zupL_s]
        refine zSt_congr (zSt_or (zSt_or (h2 k hk) (hc k hk)) hx6) fun q hq => ?_
        constructor
        · rintro ((y | y) | y)
          · exact y.elim Or.inl (fun y => absurd y.1 (by omega))
          · exact Or.inr ⟨by omega, Or.inl ⟨ho, y⟩⟩
          · exact Or.inr ⟨by omega, Or.inr y⟩
        · rintro (y | ⟨_, y | y⟩)
          · exact Or.inl (Or.inl (Or.inl y))
          · exact Or.inl (Or.inr y.2)
          · exact Or.inr y
      · rw [zupL_r (by omega), zupL_r (by omega)]
        exact zSt_congr (h2 k hk) fun q hq => ⟨fun y => y.elim Or.inl (fun y => Or.inr ⟨by omega, y.2⟩), fun y => y.elim Or.inl (fun y => Or.inr ⟨by omega, y.2⟩)⟩
    · rw [zite_f (show ¬ zshr (J 51 r) (nI j) &&& 1 = 1 from ho)]
      refine ⟨_, 8 - (j + 1), rfl, by omega, j + 1, _, by omega, rfl, rfl, fun c hc => funext fun q => by rw [zupL_r (by omega), h1 c hc], fun k hk => ?_⟩
      by_cases z : k = j
      · subst z
        rw [zupL_s]
        refine zSt_congr (zSt_or (h2 k hk) hx6) fun q hq => ?_
        constructor
        · rintro (y | y)
          · exact y.elim Or.inl (fun y => absurd y.1 (by omega))
          · exact Or.inr ⟨by omega, Or.inr y⟩
        · rintro (y | ⟨_, y | y⟩)
          · exact Or.inl (Or.inl y)
          · exact absurd y.1 ho
          · exact Or.inr y
      · rw [zupL_r (by omega)]
        exact zSt_congr (h2 k hk) fun q hq => ⟨fun y => y.elim Or.inl (fun y => Or.inr ⟨by omega, y.2⟩), fun y => y.elim Or.inl (fun y => Or.inr ⟨by omega, y.2⟩)⟩) 1000 8 (0, N) ⟨0, N, by omega, rfl, rfl, no, fun k hk => zSt_congr (nx k hk) fun q hq => ⟨Or.inl, fun y => y.elim id (fun y => absurd y.1 (by omega))⟩⟩ (by omega)
  rw [e1, zb_s]
  refine ⟨M, rfl, e2, fun k hk => zSt_congr (e3 k hk) fun q hq => ?_⟩
  constructor
  · rintro ((y | ⟨rfl, p, hp, h1, h2⟩) | ⟨h1, h2, h3, h4⟩ | ⟨h1, h2, h3, h4⟩)
    · exact Or.inl y
    · refine Or.inr ⟨p, hp, h1, by omega, by omega, Or.inl ⟨?_, ?_⟩⟩
      · rw [dv8 _ hk, dv8 _ hk]; exact h2
      · rw [md8 _ hk, md8 _ hk]
    · refine Or.inr ⟨8 * (q / 8) + r, by omega, h3, by omega, by omega, Or.inr (Or.inl ⟨?_, ?_, ?_, ?_, ?_⟩)⟩
      · rw [dv64 _ hr, dv8 _ hr]; exact h4
      · rw [md8 _ hr, dv8 _ hr, md8 _ hr]
      · rw [dv64 _ hk, dv64 _ hr, dv8 _ hr]
      · rw [dv8 _ hr, md8 _ hr, dv8 _ hk, h2]; exact h1
      · rw [md8 _ hk, dv8 _ hk, h2]
    · refine Or.inr ⟨q, hq, h3, by omega, by omega, Or.inr (Or.inr ⟨?_, ?_, ?_, ?_⟩)⟩
      · rw [dv64 _ hr]; exact h4
      · rw [dv8 _ hr, z8]; exact h1
      · rw [dv64 _ hr]; exact h2
      · rw [dv8 _ hk, dv8 _ hr]
  · rintro (y | ⟨p, hp, h1, -, -, ⟨h2, h3⟩ | ⟨h2, h3, h4, h5, h6⟩ | ⟨h2, h3, h4, h5⟩⟩)
    · exact Or.inl (Or.inl y)
    · rw [dv8 _ hk, dv8 _ hr] at h2
      rw [md8 _ hk, md8 _ hr] at h3
      exact Or.inl (Or.inr ⟨h3, p, hp, h1, h2⟩)
    · rw [dv64 _ hr] at h2
      rw [md8 _ hr, dv8 _ hr] at h3
      rw [dv64 _ hk, dv64 _ hr] at h4
      rw [dv8 _ hr, dv8 _ hk] at h5
      rw [md8 _ hk, dv8 _ hk] at h6
      refine Or.inr (Or.inl ⟨?_, h6.symm, ?_, ?_⟩)
      · rw [h3, h6]; exact h5
      · rw [h4, h3, Nat.div_add_mod]; exact h1
      · rw [h4]; exact h2
    · rw [dv64 _ hr] at h2
      rw [dv8 _ hr, z8] at h3
      rw [dv64 _ hr] at h4
      rw [dv8 _ hk, dv8 _ hr] at h5
      subst h5
      exact Or.inr (Or.inr ⟨h3, h4, h1, h2⟩)
