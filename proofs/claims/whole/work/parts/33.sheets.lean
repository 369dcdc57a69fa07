/-! sheets -/
theorem zRel_sheet {I J I' J' : zI} (h : zRel I J) (hs : zRs I' J') (hI : ∀ c : Nat, ¬ (42 ≤ c ∧ c ≤ 49) → I' c = I c) (hJ : ∀ c : Nat, ¬ (58 ≤ c ∧ c ≤ 61) → J' c = J c) : zRel I' J' := by
  obtain ⟨hw, hkk, ht, hf, _⟩ := h
  refine ⟨zRw_congr hw (fun c h1 h2 => hI c (by omega)) (hJ 51 (by decide)), ?_, ?_, ?_, hs⟩
  · obtain ⟨a, b, c⟩ := hkk
    unfold zRk
    rw [hI 0 (by decide), hJ 50 (by decide), hJ 52 (by decide)]
    refine ⟨a, b, fun q2 => ⟨fun k2 hk2 => ?_, (c q2).2⟩⟩
    rw [← (c q2).1 k2 hk2]
    unfold rW
    have := zcm_range (w := 10) hk2
    rw [hI _ (by omega)]
  · unfold zRt at ht ⊢
    rw [hI 33 (by decide), hJ 50 (by decide), hI 34 (by decide), hJ 54 (by decide)]
    exact ht
  · intro k hk
    rw [hI 41 (by decide), hJ 55 (by decide)]; exact hf k hk
/-- a number as a sheet of these bits holds it -/
def zcut (b v : Int32) : Int32 := if b = 8 then v.toInt8.toInt32 else if b = 16 then v.toInt16.toInt32 else v
theorem cut8 (v b : Int32) : fX8_cut v b = some (zcut b v) := by
  unfold fX8_cut zcut
  repeat' split
  all_goals rfl
theorem put2 {w k : Nat} {I : zI} (hk : k < 40) (v : Int32) : fX2_put w (nI k) v I = some (zup I (w + 1) k (zcut (I w 0) v)) := by
  unfold fX2_put zcut
  simp only [zl_s, zg_k _ hk, zn_k (show k < 2 ^ 31 by omega)]
  by_cases q : I w 0 = 8
  · rw [if_pos q, if_pos q]
  by_cases q2 : I w 0 = 16
  · rw [if_neg q, if_pos q2, if_neg q, if_pos q2]
  · rw [if_neg q, if_neg q2, if_neg q, if_neg q2]
theorem miss2 (w : Nat) (I : zI) : fX2_isMissing w I = some (zp (I w 0 = 0)) := by
  unfold fX2_isMissing zp
  by_cases q : I w 0 = 0
  · rw [if_pos q, if_pos q]
  · rw [if_neg q, if_neg q]
