/-! image, undo -/
theorem zcp_out {w a c : Nat} {I : zI} {D : Nat → Nat → Bool} (h : ¬ (w ≤ c ∧ c ≤ w + 8)) : zcp w a I D c = I c := by
  funext s
  unfold zcp
  rw [if_neg (fun q => h ⟨q.1, q.2.1⟩)]
theorem q_image (I J : zI) (h : zRel I J) : ∃ r I' J', fX7_image I = some (r, I') ∧ fX8_image 1000 J = some (r, J') ∧ zRel I' J' ∧ zO7 I I' ∧ zO8 J J' := by
  obtain ⟨D, e1, hD⟩ := become6 (w := 10) (a := 1) (by omega) I
  obtain ⟨J', e2, h1, h2⟩ := become8 (a := 51) (b := 52) J
  unfold fX7_image fX8_image
  rw [e1, e2, zb_s, zb_s, zl_s, zl_s]
  have hrow : ∀ k : Nat, k < 120 → J' 52 k = J 51 k := h2 (by decide)
  refine ⟨_, _, _, rfl, rfl, zRel_kept h ⟨by rw [zup_s, zup_s], Or.inr zup_s, fun _ => ⟨fun k hk => ?_, ?_⟩⟩ (fun c s h3 h4 => ?_) (fun c s h3 h4 => ?_), fun c hc => ?_, fun c hc => ?_⟩
  · rw [zup_ne (by decide), hrow k hk, ← h.1.1 k hk, ← become_row (w := 10) (a := 1) (I := I) hD hk]
    show zup (zcp 10 1 I D) 0 3 1 (zcm 10 k).1 (zcm 10 k).2 = zcp 10 1 I D (zcm 10 k).1 (zcm 10 k).2
    have := zcm_range (w := 10) hk
    rw [zup_ne (by omega)]
  · rw [zup_ne (by decide)]
    exact zWF_congr h.wf hrow
  · rw [zup_r h3, zcp_out (by omega)]
  · rw [zup_r h3, h1 c h4]
  · show zup (zcp 10 1 I D) 0 3 1 c = I c
    rw [zup_ne (by omega), zcp_out (by omega)]
  · show zup J' 50 3 1 c = J c
    rw [zup_ne (by omega), h1 c (by omega)]
theorem q_undo (I J : zI) (h : zRel I J) : ∃ r I' J', fX7_undo I = some (r, I') ∧ fX8_undo 1000 J = some (r, J') ∧ zRel I' J' ∧ zO7 I I' ∧ zO8 J J' := by
  have e15 : ∀ t : Option (Int32 × zI), zg 15 120 t = t := fun t => zg_k (i := 15) t (by decide)
  have n15 : zn 15 = 15 := rfl
  unfold fX7_undo fX8_undo
  rw [h.2.1.1]
  by_cases q : J 50 3 = 0
  · rw [if_pos q, if_pos q]; exact fin_leaf h 3
  · rw [if_neg q, if_neg q]
    have q1 : J 50 3 = 1 := h.2.1.2.1.resolve_left q
    obtain ⟨D, e1, hD⟩ := become6 (w := 1) (a := 10) (by omega) I
    obtain ⟨J', e2, h1, h2⟩ := become8 (a := 52) (b := 51) J
    rw [e1, e2, zb_s, zb_s, e15, n15]
    have hrow : ∀ k : Nat, k < 120 → J' 51 k = J 52 k := h2 (by decide)
    have hw : zRw 1 (zcp 1 10 I D) J' := ⟨fun k hk => by rw [become_row hD hk, hrow k hk]; exact (h.2.1.2.2 q1).1 k hk, zWF_congr (h.2.1.2.2 q1).2 hrow⟩
    exact ⟨_, _, _, rfl, by rw [hw.day], zRel_w h hw (fun c hc => zcp_out (by omega)) (fun c hc => h1 c hc)⟩
