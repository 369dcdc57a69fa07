/-! the class makes what was read -/
theorem make7 {X Z J : zI} {cc : Nat} {S' : Nat → Int32} (hc : cc < 30) (hZ : ∀ s : Nat, Z 39 s = X 39 s) (h : zRw 1 Z J) (hi : zItm (X 39 (4 * cc)) (X 39 (4 * cc + 1)) (X 39 (4 * cc + 2)) (X 39 (4 * cc + 3)) (J 51) S') : ∃ Z' J', fX7_makeSo (nI cc * 4) Z = some Z' ∧ zRw 1 Z' J' ∧ J' 51 = S' ∧ ∀ c : Nat, ¬ (1 ≤ c ∧ c ≤ 9) → Z' c = Z c := by
  have e0 : nI cc * (4 : Int32) = nI (4 * cc) := by rw [show nI cc * (4 : Int32) = nI (cc * 4) from pk_mul cc 4, Nat.mul_comm]
  have e2 : nI (4 * cc) + 2 = nI (4 * cc + 2) := nI_add _ 2
  have e3 : nI (4 * cc) + 3 = nI (4 * cc + 3) := nI_add _ 3
  unfold fX7_makeSo
  simp only [e0, nI_1, e2, e3, zg_k _ (show 4 * cc < 120 by omega), zg_k _ (show 4 * cc + 1 < 120 by omega), zg_k _ (show 4 * cc + 2 < 120 by omega), zg_k _ (show 4 * cc + 3 < 120 by omega), zn_k (show 4 * cc < 2 ^ 31 by omega), zn_k (show 4 * cc + 1 < 2 ^ 31 by omega), zn_k (show 4 * cc + 2 < 2 ^ 31 by omega), zn_k (show 4 * cc + 3 < 2 ^ 31 by omega), zl_s, hZ]
  rcases hi with ⟨w0, m, kd, r, bk, em, m8, ea, kd7, eb, r8, ec, bk61, rfl⟩ | ⟨w0, m, p, st, em, m4, ea, p40, eb, st61, rfl⟩ | ⟨w0, x, y, ea, x8, eb, y8, ec, rfl⟩ | ⟨w0, k, v, ea, k3, eb, ok, rfl⟩
  · rw [w0, if_pos rfl, ea, eb, ec, addThing6 (w := 1) (h.things.trans em) m8, zb_s]
    refine ⟨_, _, rfl, zRw_thing h em m8 ⟨kd, kd7, rfl⟩ ⟨r, r8, rfl⟩ ⟨bk, bk61, rfl⟩, ?_, fun c hc => ?_⟩
    · rw [zup_same, zup_same, zup_same, zup_same]
    · show zup (zup (zup (zup Z (1 + 2) m _) (1 + 3) m _) (1 + 4) m _) 1 4 _ c = Z c
      rw [zup_ne (by omega), zup_ne (by omega), zup_ne (by omega), zup_ne (by omega)]
  · rw [w0, if_neg (by decide), if_pos rfl, ea, eb, addOne6 (w := 1) (h.people.trans em) m4, zb_s]
    refine ⟨_, _, rfl, zRw_up (zRw_up (zRw_up h (by omega) (zcm_place m4) (by rw [zok_place m4]; exact ⟨p, p40, rfl⟩) (by omega)) (by omega) (zcm_strength m4) (by rw [zok_strength m4]; exact ⟨st, st61, rfl⟩) (by omega)) (j := 12) (by omega) rfl (show zlt 5 _ from ⟨m + 1, by omega, rfl⟩) (by omega), ?_, fun c hc => ?_⟩
    · rw [zup_same, zup_same, zup_same]
    · show zup (zup (zup Z (1 + 5) m _) (1 + 6) m _) 1 8 _ c = Z c
      rw [zup_ne (by omega), zup_ne (by omega), zup_ne (by omega)]
  · have go : ∀ v : Int32, ∃ Z' J', (zb (fX6_setDoor 1 (nI x) (nI y) v Z) fun o => some o) = some Z' ∧ zRw 1 Z' J' ∧ J' 51 = zdo v (J 51) x y ∧ ∀ c : Nat, ¬ (1 ≤ c ∧ c ≤ 9) → Z' c = Z c := fun v => by
      rw [setDoor6 x8 y8, zb_s]
      refine ⟨_, _, rfl, zRw_door h x8 y8 v, door8_row, fun c hc => ?_⟩
      rw [zup_ne (by omega), zup_ne (by omega)]
    rw [w0, if_neg (by decide), if_neg (by decide), if_pos rfl, ea, eb]
    rcases ec with ec | ec
    · rw [ec, if_neg (by decide)]; exact go 0
    · rw [ec, if_pos rfl]; exact go 1
  · rw [w0, if_neg (by decide), if_neg (by decide), if_neg (by decide), ea, eb, setRule6 k3, zb_s]
    refine ⟨_, _, rfl, zRw_up h (by omega) (zcm_rule k3) ok (by omega), ?_, fun c hc => ?_⟩
    · rw [zup_same]
    · show zup Z 1 (k + 1) _ c = Z c
      rw [zup_ne (by omega)]
theorem exec7 {X Z0 J0 : zI} {cf : Nat} {S : Nat → Int32} (hcf : cf ≤ 30) (h39 : ∀ s : Nat, Z0 39 s = X 39 s) (h1 : Z0 38 2 = nI cf) (hR : zRw 1 Z0 J0) (hI : zIts X (J0 51) cf S) : ∃ Z J', zit gX7_text_44 1000 (0, Z0) = some Z ∧ zRw 1 Z J' ∧ J' 51 = S ∧ ∀ c : Nat, ¬ (1 ≤ c ∧ c ≤ 9) → Z c = Z0 c := by
  obtain ⟨R, r0, rc, rj⟩ := zIts_fun hI
  obtain ⟨Z, z1, J', z2, z3, z4⟩ := zit_one (g := gX7_text_44) (fun m s => ∃ (j : Nat) (Z J : zI), s = (nI j, Z) ∧ j ≤ cf ∧ m = cf - j ∧ zRw 1 Z J ∧ J 51 = R j ∧ ∀ c : Nat, ¬ (1 ≤ c ∧ c ≤ 9) → Z c = Z0 c) (fun Z => ∃ J' : zI, zRw 1 Z J' ∧ J' 51 = S ∧ ∀ c : Nat, ¬ (1 ≤ c ∧ c ≤ 9) → Z c = Z0 c) (by
    rintro m s ⟨j, Z, J, rfl, hj, rfl, hw, hJ, hZ⟩
    unfold gX7_text_44
    dsimp only
    have e1 : Z 38 2 = nI cf := by rw [hZ 38 (by omega), h1]
    by_cases q : j = cf
    · right
      rw [if_pos (show Z 38 2 ≤ nI j by rw [e1, q]; exact Int32.le_refl _)]
      exact ⟨_, rfl, J, hw, by rw [hJ, q, rc], hZ⟩
    · left
      have hi := rj j (by omega)
      rw [← hJ] at hi
      obtain ⟨Z', J', m1, m2, m3, m4⟩ := make7 (by omega) (fun s => by rw [hZ 39 (by omega), h39]) hw hi
      rw [if_neg (show ¬ Z 38 2 ≤ nI j by rw [e1]; exact zz_nle (by omega) (by omega)), m1, zb_s, zl_s, nI_1]
      exact ⟨_, cf - (j + 1), rfl, by omega, j + 1, Z', J', rfl, by omega, rfl, m2, m3, fun c hc => (m4 c hc).trans (hZ c hc)⟩) 1000 cf (0, Z0) ⟨0, Z0, J0, rfl, by omega, by omega, hR, r0.symm, fun _ _ => rfl⟩ (by omega)
  exact ⟨Z, J', z1, z2, z3, z4⟩
