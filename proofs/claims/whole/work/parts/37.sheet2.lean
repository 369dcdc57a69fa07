theorem zbs_fin {α : Type} (x : Option (Int32 × zI)) (k : α → Option (Int32 × zI)) : zbs (zb x fun o => some (Sum.inl (o.1, o.2) : (Int32 × zI) ⊕ α)) k = zb x fun o => some (o.1, o.2) := by
  cases x <;> rfl
theorem bits_ok {α : Type} {b : Int32} (hb : b = 0 ∨ b = 8 ∨ b = 16 ∨ b = 32) (e : Option (α ⊕ Unit)) : (if b = 0 then some (.inr ()) else if b = 8 then some (.inr ()) else if b = 16 then some (.inr ()) else if b = 32 then some (.inr ()) else e) = some (.inr ()) := by
  rcases hb with q | q | q | q <;> simp [q]
theorem bits_no {α : Type} {b : Int32} (hb : ¬ (b = 0 ∨ b = 8 ∨ b = 16 ∨ b = 32)) (e : Option (α ⊕ Unit)) : (if b = 0 then some (.inr ()) else if b = 8 then some (.inr ()) else if b = 16 then some (.inr ()) else if b = 32 then some (.inr ()) else e) = e := by
  rw [if_neg (fun q => hb (Or.inl q)), if_neg (fun q => hb (Or.inr (Or.inl q))), if_neg (fun q => hb (Or.inr (Or.inr (Or.inl q)))), if_neg (fun q => hb (Or.inr (Or.inr (Or.inr q))))]
theorem q_sheet (a b c : Int32) (I J : zI) (h : zRel I J) : ∃ r I' J', fX7_sheet a b c I = some (r, I') ∧ fX8_sheet 1000 a b c J = some (r, J') ∧ zRel I' J' ∧ zO7 I I' ∧ zO8 J J' := by
  unfold fX7_sheet fX8_sheet
  simp only [sheet7, sheet8, zb_s, zif]
  by_cases hb : ¬ (b = 0 ∨ b = 8 ∨ b = 16 ∨ b = 32)
  · rw [bits_no hb, bits_no hb, zbs_l, zb_s, if_pos rfl]
    by_cases ha : ¬ zlt 4 a
    · rw [zite_f ha, zite_f ha]; exact fin_leaf h 0
    replace ha := Classical.not_not.mp ha
    rw [zite_t ha, zite_t ha, zbs_fin]
    exact fin_leaf h 0
  replace hb := Classical.not_not.mp hb
  rw [bits_ok hb, bits_ok hb, zbs_r, zbs_r, zb_s, if_neg (show ¬ (1 : Int32) = 0 by decide)]
  by_cases ha : ¬ zlt 4 a
  · rw [zite_f ha, zite_f ha]; exact fin_leaf h 0
  replace ha := Classical.not_not.mp ha
  rw [zite_t ha, zite_t ha]
  by_cases h0 : ¬ (0 : Int32) ≤ c
  · rw [if_neg h0, if_neg h0]; exact fin_leaf h 6
  replace h0 := Classical.not_not.mp h0
  rw [if_pos h0, if_pos h0]
  by_cases h1 : ¬ c ≤ 40
  · rw [if_neg h1, if_neg h1]; exact fin_leaf h 0
  replace h1 := Classical.not_not.mp h1
  rw [if_pos h1, if_pos h1]
  have hc : zlt 41 c := zlt_of (by decide) ⟨Int32.le_iff_toInt_le.mp h0, by
    have := Int32.le_iff_toInt_le.mp h1
    rw [show (40 : Int32).toInt = 40 from rfl] at this
    omega⟩
  obtain ⟨m, hm, rfl⟩ := hc
  obtain ⟨s, hs, rfl⟩ := ha
  have main : ∀ l : Nat, l < 41 → ∀ X : Option Int32, X = some (nI l) → ∃ r I' J', (some ((zfill (zup (zup I (42 + 2 * s) 0 b) (42 + 2 * s) 1 (nI l)) (42 + 2 * s + 1) 40 0) (42 + 2 * s) 1, zfill (zup (zup I (42 + 2 * s) 0 b) (42 + 2 * s) 1 (nI l)) (42 + 2 * s + 1) 40 0)) = some (r, I') ∧ (zb X fun x15 => zb (zit (gX8_sheet_95 (nI s)) 1000 (0, zup (zup J 58 s b) 59 s x15)) fun x21 => some (x21 59 s, x21)) = some (r, J') ∧ zRel I' J' ∧ zO7 I I' ∧ zO8 J J' := by
    intro l hl X hX
    obtain ⟨Y, e, hY⟩ := fill8 hs (zup (zup J 58 s b) 59 s (nI l))
    rw [hX, zb_s, e, zb_s]
    have hz := zRs_new (J' := Y) h.2.2.2.2 hs hl hb (fun c t => by rw [hY, zup_at, zup_at])
    refine ⟨_, _, _, rfl, by rw [(hz s hs).2.1], zRel_sheet h hz (fun c hc => ?_) (fun c hc => ?_), fun c hc => ?_, fun c hc => ?_⟩
    · unfold zfill zset; rw [if_neg (by omega), zup_ne (by omega), zup_ne (by omega)]
    · funext t; rw [hY, if_neg (by omega), zup_r (by omega), zup_r (by omega)]
    · unfold zfill zset; show (if c = _ then _ else _) = _; rw [if_neg (by omega), zup_ne (by omega), zup_ne (by omega)]
    · funext t; show Y c t = _; rw [hY, if_neg (by omega), zup_r (by omega), zup_r (by omega)]
  unfold fX2_renew
  simp only [zg_k _ hs, zn_k (show s < 2 ^ 31 by omega), zl_s]
  by_cases qb : b = 0
  · rw [if_pos qb, if_pos qb, zb_s]
    exact main 0 (by decide) _ rfl
  · rw [if_neg qb, if_neg qb, zb_s]
    exact main m hm _ rfl
