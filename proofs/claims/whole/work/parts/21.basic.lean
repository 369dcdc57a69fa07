/-! checks of arguments, findings -/
theorem zb_s {α β : Type} (x : α) (k : α → Option β) : zb (some x) k = k x := rfl
theorem zl_s {α β : Type} (x : α) (f : α → β) : zl x f = f x := rfl
theorem zbs_r {α β : Type} (x : α) (k : α → Option β) : zbs (some (Sum.inr x : β ⊕ α)) k = k x := rfl
theorem zbs_l {α β : Type} (r : β) (k : α → Option β) : zbs (some (Sum.inl r : β ⊕ α)) k = some r := rfl
theorem zg_k {α : Type} {i n : Nat} (t : Option α) (h : i < n) (hn : n < 2 ^ 31 := by decide) : zg (nI i) n t = t := zg_nI t h hn
theorem zn_k {i : Nat} (h : i < 2 ^ 31) : zn (nI i) = i := nI_clamp h
noncomputable def zp (p : Prop) : Int32 := @ite _ p (Classical.propDecidable p) 1 0
theorem zp_t {p : Prop} (h : p) : zp p = 1 := by unfold zp; rw [if_pos h]
theorem zp_f {p : Prop} (h : ¬ p) : zp p = 0 := by unfold zp; rw [if_neg h]
theorem zp_0 {p : Prop} : (zp p = 0) = ¬ p := by
  by_cases h : p
  · rw [zp_t h]; simp [h]
  · rw [zp_f h]; simp [h]
noncomputable def zite {α : Type} (p : Prop) (A B : α) : α := @ite _ p (Classical.propDecidable p) A B
theorem zite_t {α : Type} {p : Prop} (h : p) {A B : α} : zite p A B = A := by unfold zite; rw [if_pos h]
theorem zite_f {α : Type} {p : Prop} (h : ¬ p) {A B : α} : zite p A B = B := by unfold zite; rw [if_neg h]
theorem zif {α : Type} {p : Prop} {A B : α} : (if zp p = 0 then A else B) = zite p B A := by
  by_cases h : p
  · rw [zp_t h, zite_t h]; rfl
  · rw [zp_f h, zite_f h]; rfl
theorem zgb_p {α : Type} (p : Prop) (t : Option α) : zgb (zp p) t = t := by
  unfold zgb
  by_cases h : p
  · rw [zp_t h]; simp
  · rw [zp_f h]; simp
theorem zgb_0 {α : Type} (t : Option α) : zgb 0 t = t := by unfold zgb; simp
theorem zgb_1 {α : Type} (t : Option α) : zgb 1 t = t := by unfold zgb; simp
/-- from b to e -/
def zbt (b e : Int) (a : Int32) : Prop := b ≤ a.toInt ∧ a.toInt ≤ e
theorem within7 (a b c : Int32) : fX7_isWithin a b c = some (zp (zbt b.toInt c.toInt a)) := by
  unfold fX7_isWithin zbt
  by_cases h1 : a < b
  · rw [if_pos h1, zp_f]
    rw [Int32.lt_iff_toInt_lt] at h1
    omega
  · rw [if_neg h1]
    rw [Int32.lt_iff_toInt_lt] at h1
    by_cases h2 : c < a
    · rw [if_pos h2, zp_f]
      rw [Int32.lt_iff_toInt_lt] at h2
      omega
    · rw [if_neg h2, zp_t]
      rw [Int32.lt_iff_toInt_lt] at h2
      omega
theorem lcmp_lt (a b : Int64) : (lg_cmp a b < 0) = (a.toInt < b.toInt) := by
  unfold lg_cmp
  by_cases h : b < a
  · have h2 := Int64.lt_iff_toInt_lt.mp h
    rw [if_pos h]
    simp
    omega
  · rw [if_neg h]
    by_cases h2 : a = b
    · rw [if_pos h2, h2]; simp
    · rw [if_neg h2]
      have h3 : ¬ b.toInt < a.toInt := fun q => h (Int64.lt_iff_toInt_lt.mpr q)
      have h4 : a.toInt ≠ b.toInt := fun q => h2 (Int64.toInt_inj.mp q)
      simp
      omega
theorem lcmp_gt (a b : Int64) : (0 < lg_cmp a b) = (b.toInt < a.toInt) := by
  unfold lg_cmp
  by_cases h : b < a
  · have h2 := Int64.lt_iff_toInt_lt.mp h
    rw [if_pos h]
    simp
    omega
  · rw [if_neg h]
    have h3 : ¬ b.toInt < a.toInt := fun q => h (Int64.lt_iff_toInt_lt.mpr q)
    by_cases h2 : a = b
    · rw [if_pos h2, h2]; simp
    · rw [if_neg h2]
      simp
      omega
theorem within8 (a b c : Int64) : fX8_within a b c = some (zp (b.toInt ≤ a.toInt ∧ a.toInt ≤ c.toInt)) := by
  unfold fX8_within
  by_cases h1 : lg_cmp a b < 0
  · rw [if_pos h1]
    rw [lcmp_lt] at h1
    rw [zp_f (by omega)]
  · rw [if_neg h1]
    rw [lcmp_lt] at h1
    by_cases h2 : 0 < lg_cmp a c
    · rw [if_pos h2]
      rw [lcmp_gt] at h2
      rw [zp_f (by omega)]
    · rw [if_neg h2]
      rw [lcmp_gt] at h2
      rw [zp_t (by omega)]
theorem within8I (a : Int32) (b c : Int64) : fX8_within a.toInt64 b c = some (zp (zbt b.toInt c.toInt a)) := by
  rw [within8, Int32.toInt_toInt64]
  rfl
theorem zlt_bt {n : Nat} {b e : Int} {a : Int32} (hn : n < 2 ^ 31) (hb : b = 0) (he : e = (n : Int) - 1) : zbt b e a = zlt n a := by
  subst hb he
  apply propext
  constructor
  · intro h
    obtain ⟨h1, h2⟩ := h
    refine ⟨a.toInt.toNat, by omega, ?_⟩
    apply Int32.toInt_inj.mp
    rw [nI_toInt (by omega)]
    omega
  · rintro ⟨k, hk, rfl⟩
    refine ⟨?_, ?_⟩ <;> rw [nI_toInt (by omega)] <;> omega
theorem nI_m1 {m : Nat} (h : m < 2 ^ 30) : (nI m - 1).toInt = (m : Int) - 1 := by
  have := pk_sub_toInt (a := m) (b := 1) h (by omega)
  exact this
theorem room7 (a : Int32) : fX7_isRoom a = some (zp (zlt 8 a)) := by
  unfold fX7_isRoom
  rw [within7, zb_s, zgb_p, zlt_bt (n := 8) (b := Int32.toInt 0) (e := Int32.toInt 7) (by decide) rfl rfl]
theorem place7 (a : Int32) : fX7_isPlace a = some (zp (zlt 40 a)) := by
  unfold fX7_isPlace
  rw [within7, zb_s, zgb_p, zlt_bt (n := 40) (b := Int32.toInt 0) (e := Int32.toInt 39) (by decide) rfl rfl]
theorem kind7 (a : Int32) : fX7_isKind a = some (zp (zlt 7 a)) := by
  unfold fX7_isKind
  rw [within7, zb_s, zgb_p, zlt_bt (n := 7) (b := Int32.toInt 0) (e := Int32.toInt 6) (by decide) rfl rfl]
theorem sheet7 (a : Int32) : fX7_isSheet a = some (zp (zlt 4 a)) := by
  unfold fX7_isSheet
  rw [within7, zb_s, zgb_p, zlt_bt (n := 4) (b := Int32.toInt 0) (e := Int32.toInt 3) (by decide) rfl rfl]
theorem room8 (a : Int32) : fX8_isRoom a = some (zp (zlt 8 a)) := by
  unfold fX8_isRoom
  rw [within8I, zb_s, zgb_p, zlt_bt (n := 8) (b := Int64.toInt 0) (e := Int64.toInt 7) (by decide) rfl rfl]
theorem place8 (a : Int32) : fX8_isPlace a = some (zp (zlt 40 a)) := by
  unfold fX8_isPlace
  rw [within8I, zb_s, zgb_p, zlt_bt (n := 40) (b := Int64.toInt 0) (e := Int64.toInt 39) (by decide) rfl rfl]
theorem kind8 (a : Int32) : fX8_isKind a = some (zp (zlt 7 a)) := by
  unfold fX8_isKind
  rw [within8I, zb_s, zgb_p, zlt_bt (n := 7) (b := Int64.toInt 0) (e := Int64.toInt 6) (by decide) rfl rfl]
theorem sheet8 (a : Int32) : fX8_isSheet a = some (zp (zlt 4 a)) := by
  unfold fX8_isSheet
  rw [within8I, zb_s, zgb_p, zlt_bt (n := 4) (b := Int64.toInt 0) (e := Int64.toInt 3) (by decide) rfl rfl]
theorem thing7 (a : Int32) {I : zI} {m : Nat} (h : I 1 4 = nI m) (hm : m < 9) : fX7_isThing a I = some (zp (zlt m a)) := by
  unfold fX7_isThing
  rw [within7, zb_s, zgb_p, h, nI_m1 (by omega), zlt_bt (n := m) (b := Int32.toInt 0) (by omega) rfl rfl]
theorem one7 (a : Int32) {I : zI} {m : Nat} (h : I 1 8 = nI m) (hm : m < 5) : fX7_isOne a I = some (zp (zlt m a)) := by
  unfold fX7_isOne
  rw [within7, zb_s, zgb_p, h, nI_m1 (by omega), zlt_bt (n := m) (b := Int32.toInt 0) (by omega) rfl rfl]
theorem thing8 (a : Int32) {I : zI} {m : Nat} (h : I 51 11 = nI m) (hm : m < 9) : fX8_isThing a I = some (zp (zlt m a)) := by
  unfold fX8_isThing
  rw [show zg 11 120 _ = _ from zg_k (i := 11) _ (by decide), within8I, zb_s, zgb_p]
  rw [show zn 11 = 11 from rfl, h, Int32.toInt_toInt64, nI_m1 (by omega)]
  rw [zlt_bt (n := m) (b := Int64.toInt 0) (by omega) rfl rfl]
theorem one8 (a : Int32) {I : zI} {m : Nat} (h : I 51 12 = nI m) (hm : m < 5) : fX8_isOne a I = some (zp (zlt m a)) := by
  unfold fX8_isOne
  rw [show zg 12 120 _ = _ from zg_k (i := 12) _ (by decide), within8I, zb_s, zgb_p]
  rw [show zn 12 = 12 from rfl, h, Int32.toInt_toInt64, nI_m1 (by omega)]
  rw [zlt_bt (n := m) (b := Int64.toInt 0) (by omega) rfl rfl]
/-- findings -/
theorem find7 {k : Nat} (hk : k < 7) (I : zI) : fX7_finding ((-1000001) - nI k) I = some ((-1000001) - nI k, zup I 41 k (I 41 k + 1)) := by
  unfold fX7_finding
  have e : (-1000001 : Int32) - ((-1000001) - nI k) = nI k := by
    apply Int32.toInt_inj.mp
    rcases (show k = 0 ∨ k = 1 ∨ k = 2 ∨ k = 3 ∨ k = 4 ∨ k = 5 ∨ k = 6 by omega) with rfl | rfl | rfl | rfl | rfl | rfl | rfl <;> rfl
  rw [zl_s, e, within7, zb_s, zlt_bt (n := 7) (b := Int32.toInt 0) (e := Int32.toInt 6) (by decide) rfl rfl, zp_t ⟨k, hk, rfl⟩]
  rw [if_neg (by decide), zg_k _ hk, zg_k _ hk, zl_s, zn_k (by omega)]
theorem find8 {k : Nat} (hk : k < 7) (I : zI) : fX8_finding (nI k) I = some ((-1000001) - nI k, zup I 55 k (I 55 k + 1)) := by
  unfold fX8_finding
  rw [zg_k _ hk, zg_k _ hk, zl_s, zn_k (by omega)]
theorem zRel_find {I J : zI} {k : Nat} (h : zRel I J) (hk : k < 7) : zRel (zup I 41 k (I 41 k + 1)) (zup J 55 k (J 55 k + 1)) := by
  obtain ⟨hw, hkk, ht, hf, hs⟩ := h
  have h2 : zRel (zup I 41 k (I 41 k + 1)) (zup J 55 k (J 55 k + 1)) ↔ zRf (zup I 41 k (I 41 k + 1)) (zup J 55 k (J 55 k + 1)) := by
    constructor
    · intro q; exact q.2.2.2.1
    · intro q
      refine ⟨zRw_congr hw (fun c h1 h2 => zup_ne (by omega)) (zup_ne (by omega)), ?_, ?_, q, ?_⟩
      · obtain ⟨a, b, c⟩ := hkk
        unfold zRk
        rw [zup_ne (j := 0) (by omega), zup_ne (j := 50) (by omega), zup_ne (j := 52) (by omega)]
        refine ⟨a, b, fun q2 => ⟨fun k2 hk2 => ?_, (c q2).2⟩⟩
        rw [← (c q2).1 k2 hk2]
        unfold rW
        have := zcm_range (w := 10) hk2
        rw [zup_ne (by omega)]
      · unfold zRt at ht ⊢
        rw [zup_ne (j := 33) (by omega), zup_ne (j := 50) (by omega), zup_ne (j := 34) (by omega), zup_ne (j := 54) (by omega)]
        exact ht
      · intro s hs4
        rw [zup_ne (j := 42 + 2 * s) (by omega), zup_ne (j := 43 + 2 * s) (by omega), zup_ne (j := 58) (by omega), zup_ne (j := 59) (by omega), zup_ne (j := 60) (by omega)]
        exact hs s hs4
  rw [h2]
  intro j hj
  rw [zup_same, zup_same]
  unfold upd
  rw [hf k hk]
  by_cases q : j = k
  · rw [if_pos q, if_pos q]
  · rw [if_neg q, if_neg q]; exact hf j hj
/-- both answer the finding k -/
theorem fin_leaf {I J : zI} (h : zRel I J) (k : Nat) (hk : k < 7 := by decide) {c d : Int32} (hc : c = (-1000001) - nI k := by rfl) (hd : d = nI k := by rfl) : ∃ (r : Int32) (I' J' : zI), (zb (fX7_finding c I) fun o => some (o.1, o.2)) = some (r, I') ∧ (zb (fX8_finding d J) fun o => some (o.1, o.2)) = some (r, J') ∧ zRel I' J' ∧ zO7 I I' ∧ zO8 J J' := by
  subst hc hd
  rw [find7 hk, find8 hk]
  exact ⟨_, _, _, rfl, rfl, zRel_find h hk, zO7.up (by omega), zO8.up (by omega)⟩
theorem zRel.wf {I J : zI} (h : zRel I J) : zWF (J 51) := h.1.2
theorem zRel.many {I J : zI} (h : zRel I J) : ∃ m : Nat, m < 9 ∧ J 51 11 = nI m ∧ I 1 4 = nI m := by
  obtain ⟨m, hm, e⟩ := h.wf.many
  exact ⟨m, hm, e, h.1.things.trans e⟩
theorem zRel.folk {I J : zI} (h : zRel I J) : ∃ m : Nat, m < 5 ∧ J 51 12 = nI m ∧ I 1 8 = nI m := by
  obtain ⟨m, hm, e⟩ := h.wf.folk
  exact ⟨m, hm, e, h.1.people.trans e⟩
