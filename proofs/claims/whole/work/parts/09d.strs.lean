def zF : List Cond := flatC (Jvm.Cond.and given_1 narrow_1)
def zsTm (i : Nat) : Term := .string (zsE i).1 (zsE i).2.1
def zsV (i : Nat) : Term := .field (zsTm i) "java/lang/String" "value" "[B"
def zsConds (i : Nat) : List Cond := [.exactly (zsTm i) "java/lang/String", .eq (.field (zsTm i) "java/lang/String" "coder" "B") (.int 0), .arrayOf (zsV i) .byte, .eq (.length (zsV i)) (.int (Int32.ofNat (zsLen i)))] ++ (List.range (zsLen i)).map (fun j => .eq (.elem (zsV i) (.int (Int32.ofNat j))) (.int (zsAt i j)))
def zsIx : List (List Nat) := [[9, 10, 11, 12, 13, 14, 15, 16, 17], [18, 19, 20, 21, 22, 23, 24, 25, 26], [27, 28, 29, 30, 31, 32, 33, 34, 35], [36, 37, 38, 39, 40, 41, 42], [43, 44, 45, 46, 47, 48, 49, 50, 51, 52], [53, 54, 55, 56, 57, 58, 59], [60, 61, 62, 63, 64, 65, 66, 67], [68, 69, 70, 71, 72, 73, 74], [75, 76, 77, 78, 79, 80, 81, 82], [83, 84, 85, 86, 87, 88, 89, 90], [91, 92, 93, 94, 95, 96, 97, 98, 99], [100, 101, 102, 103, 104, 105, 106, 107], [108, 109, 110, 111, 112, 113, 114, 115], [116, 117, 118, 119, 120, 121], [122, 123, 124, 125, 126, 127, 128, 129], [130, 131, 132, 133, 134, 135, 136, 137, 138], [139, 140, 141, 142, 143, 144, 145, 146, 147, 148], [149, 150, 151, 152], [153, 154, 155, 156, 157, 158, 159, 160, 161], [163, 164, 165, 166, 167, 168, 169, 170, 171], [173, 174, 175, 176, 177, 178, 179, 180, 181], [183, 184, 185, 186, 187, 188, 189], [191, 192, 193, 194, 195, 196, 197, 198, 199, 200], [202, 203, 204, 205, 206, 207, 208], [210, 211, 212, 213, 214, 215, 216, 217], [219, 220, 221, 222, 223, 224], [226, 227, 228, 229, 230, 231, 232, 233], [243, 244, 245, 246, 247, 248, 249, 250, 251], [253, 254, 255, 256, 257, 258, 259, 260, 261, 262], [235, 236, 237, 238, 239, 240, 241], [264, 265, 266, 267, 268, 269, 270, 271], [273, 274, 275, 276, 277, 278, 279, 280], [282, 283, 284, 285, 286, 287, 288, 289, 290], [292, 293, 294, 295, 296, 297, 298, 299], [301, 302, 303, 304, 305, 306, 307, 308], [310, 311, 312, 313, 314]]
def zsRx : List Nat := [742, 743, 744, 745, 746, 747, 748, 749, 750, 751, 752, 753, 754, 755, 756, 757, 758, 759, 1404, 1405, 1406, 1407, 1408, 1409, 1410, 1421, 1438, 1444, 1445, 1439, 1446, 1451, 1452, 1457, 1458, 1459]
set_option maxRecDepth 100000 in
theorem zsConds_ok : ∀ i : Nat, i < 36 → zsConds i = (zsIx.getD i []).filterMap (fun k => zF[k]?) := by decide +kernel
set_option maxRecDepth 100000 in
theorem zsRef_ok : ∀ i : Nat, i < 36 → lw_tbl[zsRx.getD i 0]? = some (.stringRef (zsE i).1 (zsE i).2.1 (zsE i).2.2) := by decide +kernel
theorem zs_lenlt : ∀ i : Nat, i < 36 → zsLen i < 2 ^ 31 := zsLen_lt
theorem zsConds_mem {i : Nat} (hi : i < 36) {c : Cond} (h : c ∈ zsConds i) : c ∈ zF := by
  rw [zsConds_ok i hi] at h
  obtain ⟨k, -, hk⟩ := List.mem_filterMap.mp h
  exact List.mem_of_getElem? hk
/-- the String constants and the rest that the frames have -/
theorem zStr_of {args : Array Value} {s : State} {A : Nat → Prop} (hg : (Jvm.Cond.and given_1 narrow_1).before args s = true) (hA : ∀ a : Nat, a < s.heap.size → ¬ A a) : ∃ sK sV : Nat → Nat, zStr sK sV A s ∧ ∀ i : Nat, i < 36 → (zsTm i).eval args s none [] s = some (.ref (sK i)) := by
  have hs : ∀ i : Nat, i < 36 → ∀ c ∈ zsConds i, c.before args s = true := fun i hi c hc => flat_of_before _ hg _ (zsConds_mem hi hc)
  have h0 : ∀ i : Nat, ∃ q : Nat × Nat, i < 36 → (zsTm i).eval args s none [] s = some (.ref q.1) ∧ va_O "java/lang/String" q.1 A s s.heap ∧ va_OF "java/lang/String" "coder" "B" (.int 0) q.1 A s s.heap ∧ va_OF "java/lang/String" "value" "[B" (.ref q.2) q.1 A s s.heap ∧ va_T .byte q.2 (zsLen i) (fun j => .int (zsAt i j)) A s s.heap := by
    intro i
    by_cases hi : i < 36
    · have e1 := hs i hi (.exactly (zsTm i) "java/lang/String") (by unfold zsConds; simp)
      have e2 := hs i hi (.eq (.field (zsTm i) "java/lang/String" "coder" "B") (.int 0)) (by unfold zsConds; simp)
      have e3 := hs i hi (.arrayOf (zsV i) .byte) (by unfold zsConds; simp)
      have e4 := hs i hi (.eq (.length (zsV i)) (.int (Int32.ofNat (zsLen i)))) (by unfold zsConds; simp)
      have e5 : ∀ j : Nat, j < zsLen i → (Cond.eq (.elem (zsV i) (.int (Int32.ofNat j))) (.int (zsAt i j))).before args s = true := fun j hj => hs i hi _ (by unfold zsConds; exact List.mem_append_right _ (List.mem_map.mpr ⟨j, List.mem_range.mpr hj, rfl⟩))
      obtain ⟨a, c, cA, kA, q1, q2, q3, q4, q5, q6, -⟩ := Cond.exactly_spec (args := args) (first := s) (o := none) (s := s) (idx := []) (t := zsTm i) (cls := "java/lang/String") e1
      obtain ⟨t, ht, hT⟩ := va_Tof (f := fun j => .int (zsAt i j)) (A := A) (zsLen_lt i hi) e3 (va_eqt e4) (fun j hj => va_eqt (e5 j hj)) hA
      exact ⟨(a, t), fun _ => ⟨q1, ⟨cA, q3, q5, by rw [q6]; exact q2, hA a (Array.getElem?_eq_some_iff.mp q3).1⟩, vk_OFof q1 (va_eqt e2) hA, vk_OFof q1 ht hA, hT⟩⟩
    · exact ⟨(0, 0), fun h => absurd h hi⟩
  obtain ⟨ad, had⟩ := Classical.axiomOfChoice h0
  exact ⟨fun i => (ad i).1, fun i => (ad i).2, fun i hi => (had i hi).2, fun i hi => (had i hi).1⟩
theorem z_icsI : zF[4]? = some (.eq (.static "java/lang/String" "COMPACT_STRINGS" "Z") (.int 1)) := by decide +kernel
theorem z_ifmI : zF[5]? = some (.isRef (.static "jdk/internal/util/Preconditions" "SIOOBE_FORMATTER" "Ljava/util/function/BiFunction;")) := by decide +kernel
theorem z_lcs : lw_tbl[773]? = some (.laysStatic "java/lang/String" "COMPACT_STRINGS" "Z") := by decide +kernel
theorem z_lfm : lw_tbl[789]? = some (.laysStatic "jdk/internal/util/Preconditions" "SIOOBE_FORMATTER" "Ljava/util/function/BiFunction;") := by decide +kernel
theorem z_ini1 : lw_tbl[97]? = some (.initialized "java/lang/String") := by decide +kernel
theorem z_ini2 : lw_tbl[99]? = some (.initialized "jdk/internal/util/Preconditions") := by decide +kernel
theorem z_n24 : lw_tbl[192]? = some (.methodLinkNest RX7 24 yX1_init RX7) := by decide +kernel
theorem z_n31 : lw_tbl[212]? = some (.methodLinkNest RX7 31 yX4_init RX7) := by decide +kernel
theorem z_n46 : lw_tbl[270]? = some (.methodLinkNest RX7 46 yX2_init RX7) := by decide +kernel
theorem z_n11 : lw_tbl[218]? = some (.methodLinkNest RX4 11 yX3_init RX7) := by decide +kernel
theorem z_n68 : lw_tbl[864]? = some (.methodLinkNest RX4 68 zNest1 RX7) := by decide +kernel
theorem z_n95 : lw_tbl[851]? = some (.methodLinkNest RX4 95 zNest2 RX7) := by decide +kernel
theorem z_ao : lw_tbl[268]? = some (.arrayOver (.object RX2)) := by decide +kernel
theorem zR_of {args : Array Value} {s : State} {A : Nat → Prop} (hts : ∀ w ∈ lw_tbl, w.before args s = true) (hg : (Jvm.Cond.and given_1 narrow_1).before args s = true) (hA : ∀ a : Nat, a < s.heap.size → ¬ A a) : ∃ sK sV : Nat → Nat, zR sK sV A s := by
  obtain ⟨sK, sV, h1, h2⟩ := zStr_of hg hA
  have ht : ∀ {i : Nat} {w : Cond}, lw_tbl[i]? = some w → w.before args s = true := fun h => hts _ (List.mem_of_getElem? h)
  have hf : ∀ {i : Nat} {w : Cond}, zF[i]? = some w → w.before args s = true := fun h => flat_of_before _ hg _ (List.mem_of_getElem? h)
  refine ⟨sK, sV, h1, fun i hi => ?_, va_Zof (ht z_lcs) (ht z_ini1) (va_eqt (hf z_icsI)) hA, va_Zqof (ht z_lfm) (ht z_ini2) (hf z_ifmI) hA, va_Nw.of rfl (ht z_n68), va_Nw.of rfl (ht z_n95)⟩
  exact vk_R.of (ht (zsRef_ok i hi)) (h2 i hi)
