theorem q_text (I J : zI) (h : zRel I J) : ∃ r I' J', fX7_text 1000 I = some (r, I') ∧ fX8_text 1000 J = some (r, J') ∧ zRel I' J' ∧ zO7 I I' ∧ zO8 J J' := by
  sorry
