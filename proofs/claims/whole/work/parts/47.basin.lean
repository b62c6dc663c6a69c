/-! ===== the class's basins ===== -/
def Es (h : MH) : Prop := h.1 0 = aI 8 mj_east ∧ h.1 1 = aI 8 mj_south
def bes (c d : Int) : Int := if 0 ≤ c ∧ onB (c % 6 + gx (d % 8)) (c / 6 + gy (d % 8)) = true then 6 * (c / 6 + gy (d % 8)) + (c % 6 + gx (d % 8)) else -1
theorem bes_r {c d : Int} : -1 ≤ bes c d ∧ bes c d < 24 := by
  unfold bes
  split
  · rename_i h
    have := onB_iff.mp h.2
    omega
  · omega
theorem mj_east_Z : ∀ d : Int, 0 ≤ d → d < 8 → mj_east d.toNat = zI (gx d) := mj_lt8 (by decide) (by decide) (by decide) (by decide) (by decide) (by decide) (by decide) (by decide)
theorem mj_south_Z : ∀ d : Int, 0 ≤ d → d < 8 → mj_south d.toNat = zI (gy d) := mj_lt8 (by decide) (by decide) (by decide) (by decide) (by decide) (by decide) (by decide) (by decide)
theorem s_beside {h : MH} (E : Es h) {c d : Int} (h1 : -1 ≤ c) (h2 : c < 24) (h3 : 0 ≤ d) (h4 : d < 16) : f_C_beside (zI c) (zI d) h = some (zI (bes c d)) := by
  have a7 := zI_and7 d h3 h4
  unfold f_C_beside bes
  rw [a7, alen_i E.1 (by decide), alen_i E.2 (by decide), ald_z E.1 (k := d % 8) (by omega) (by omega) (by decide), ald_z E.2 (k := d % 8) (by omega) (by omega) (by decide), mj_east_Z _ (by omega) (by omega), mj_south_Z _ (by omega) (by omega)]
  simp only [bd]
  simp (disch := omega) only [l0, l24, zI_lt, zI_le]
  by_cases c1 : c < 0
  · rw [if_pos c1, if_neg (by omega)]; rfl
  · have g1 := gx_le (d % 8)
    have g2 := gy_le (d % 8)
    rw [if_neg c1, if_neg (by omega), if_neg (by omega), if_pos (by omega)]
    simp (disch := omega) only [l4, l6, zI_rem, zI_div, zI_add, zI_mul, zI_lt, zI_le]
    by_cases b : onB (c % 6 + gx (d % 8)) (c / 6 + gy (d % 8)) = true
    · have := onB_iff.mp b
      rw [if_neg (by omega), if_neg (by omega), if_neg (by omega), if_neg (by omega), if_pos ⟨by omega, b⟩]
    · have hn : ¬ (0 ≤ c % 6 + gx (d % 8) ∧ c % 6 + gx (d % 8) ≤ 5 ∧ 0 ≤ c / 6 + gy (d % 8) ∧ c / 6 + gy (d % 8) ≤ 3) := fun z => b (onB_iff.mpr z)
      have e2 : ¬ (0 ≤ c ∧ onB (c % 6 + gx (d % 8)) (c / 6 + gy (d % 8)) = true) := fun z => b z.2
      simp only [if_neg e2]
      repeat' split
      all_goals first | rfl | (exfalso; omega)
/-- the class's middle behind a move -/
def midB (c t m : Int) : Int := if m = 0 ∨ m = 1 then c else if m = 2 ∨ m = 3 then bes (bes c (t + 4)) (tT t m) else if m = 4 ∨ m = 5 then bes (bes c t) (tT t m + 4) else if m = 6 then bes c t else bes c (t + 4)
theorem midB_r {c t m : Int} (h1 : 0 ≤ c) (h2 : c < 24) : -1 ≤ midB c t m ∧ midB c t m < 24 := by
  unfold midB
  split
  · omega
  · split
    · exact bes_r
    · split
      · exact bes_r
      · split
        · exact bes_r
        · exact bes_r
theorem s_turnBehind {t m : Int} (h1 : 0 ≤ t) (h2 : t < 8) (h3 : 0 ≤ m) (h4 : m < 8) : f_C_turnBehind (zI t) (zI m) = zI (tT t m) := by
  have a7 : ∀ a : Int, 0 ≤ a → a < 16 → zI a &&& zI 7 = zI (a % 8) := zI_and7
  unfold f_C_turnBehind b_C_turnBehind_21 tT
  simp (disch := omega) only [l0, l1, l2, l6, l7, zI_lt, zI_rem, zI_eq, zI_add, a7]
  by_cases c1 : m < 6
  · rw [if_pos c1, if_neg (show ¬ 5 < m by omega)]
    by_cases c2 : m % 2 = 0
    · rw [if_pos c2, if_pos c2]
    · rw [if_neg c2, if_neg c2]
  · rw [if_neg c1, if_pos (show 5 < m by omega)]
theorem s_middleBehind {h : MH} (E : Es h) {c t m : Int} (h1 : 0 ≤ c) (h2 : c < 24) (h3 : 0 ≤ t) (h4 : t < 8) (h5 : 0 ≤ m) (h6 : m < 8) : f_C_middleBehind (zI c) (zI t) (zI m) h = some (zI (midB c t m)) := by
  have r1 := bes_r (c := c) (d := t + 4)
  have r2 := bes_r (c := c) (d := t)
  have ht := tT_r (t := t) (m := m) h3 h4
  unfold f_C_middleBehind b_C_middleBehind_50 b_C_middleBehind_66 midB
  rw [s_turnBehind h3 h4 h5 h6]
  simp (disch := omega) only [l0, l1, l2, l3, l4, l5, l6, l7, zI_eq, zI_add, s_beside E, bd]
  rcases (show m = 0 ∨ m = 1 ∨ m = 2 ∨ m = 3 ∨ m = 4 ∨ m = 5 ∨ m = 6 ∨ m = 7 by omega) with rfl | rfl | rfl | rfl | rfl | rfl | rfl | rfl <;> rfl
/-- a basin's own fields -/
def bF (v : Nat → Int) (b c : Nat) : List Value := [.int (zI (v 1)), .int (zI (v 2)), .int (zI (v 3)), .int (zI (v 14)), .int (zI (v 15)), .int (zI (v 16)), .int (zI (v 17)), .int (zI (v 13)), .int (zI (v 4)), .ref b, .ref c]
abbrev bO (v : Nat → Int) (a : Nat) : MC := oB 1 (bF v (a + 1) (a + 2))
def sC (s : Int) : Nat := if s = 1 then 8 else if s = 2 then 3 else if s = 3 then 4 else if s = 4 then 7 else 2
def sK (s : Int) : Int := if s = 1 then 3 else if s = 2 then 15 else if s = 3 then 51 else 192
abbrev hC (s n mi : Int) : MC := oB (sC s) [.int (zI n), .int (zI mi), .int (zI (sK s))]
def Bs (h : MH) (a : Nat) (v : Nat → Int) : Prop :=
  h.1 a = bO v a ∧ h.1 (a + 1) = aZ 24 (fun j => v (18 + j)) ∧ ∃ g : Nat → Option Nat, h.1 (a + 2) = .inr (.inl (2, 4, g)) ∧ ∀ i : Nat, (i : Int) < v 4 → ∃ p, g i = some p ∧ 48 ≤ p ∧ h.1 p = hC (v (5 + i)) i (v (9 + i))
theorem b_on {h : MH} {a : Nat} {v : Nat → Int} (B : h.1 a = bO v a) {α : Type} (x : Option α) : onc h (some a) 1 x = x := onc_o B
theorem b_g {h : MH} {a : Nat} {v : Nat → Int} (B : h.1 a = bO v a) : gfi h (some a) [1] 0 = some (zI (v 1)) ∧ gfi h (some a) [1] 1 = some (zI (v 2)) ∧ gfi h (some a) [1] 2 = some (zI (v 3)) ∧ gfi h (some a) [1] 3 = some (zI (v 14)) ∧ gfi h (some a) [1] 4 = some (zI (v 15)) ∧ gfi h (some a) [1] 5 = some (zI (v 16)) ∧ gfi h (some a) [1] 6 = some (zI (v 17)) ∧ gfi h (some a) [1] 7 = some (zI (v 13)) ∧ gfi h (some a) [1] 8 = some (zI (v 4)) ∧ gfr h (some a) [1] 9 = some (some (a + 1)) ∧ gfr h (some a) [1] 10 = some (some (a + 2)) :=
  ⟨gfi_o B rfl rfl, gfi_o B rfl rfl, gfi_o B rfl rfl, gfi_o B rfl rfl, gfi_o B rfl rfl, gfi_o B rfl rfl, gfi_o B rfl rfl, gfi_o B rfl rfl, gfi_o B rfl rfl, gfr_o B rfl rfl, gfr_o B rfl rfl⟩
theorem s_B_sinks {h : MH} {a : Nat} {v : Nat → Int} (B : h.1 a = bO v a) (W : Wv v) : f_B_sinks (some a) h = some (zI (vD v 0)) := by
  obtain ⟨g0, g1, g2, g3, g4, g5, g6, g7, g8, g9, g10⟩ := b_g B
  obtain ⟨w1, w2, w3, w4, w5, w13, w14, w15, w16, w17, w18⟩ := W
  unfold f_B_sinks vD
  simp (disch := omega) only [g5, g1, g2, bd, l1, zI_eq, zI_add]
  by_cases c : v 16 = 1
  · rw [if_pos c, if_pos c]; congr 2; omega
  · rw [if_neg c, if_neg c]; congr 2; omega
theorem s_B_isBlown {h : MH} {a : Nat} {v : Nat → Int} (B : h.1 a = bO v a) (W : Wv v) : f_B_isBlown (some a) h = some (if v 16 = 0 ∧ 0 < v 1 then 1 else 0) := by
  obtain ⟨g0, g1, g2, g3, g4, g5, g6, g7, g8, g9, g10⟩ := b_g B
  obtain ⟨w1, w2, w3, w4, w5, w13, w14, w15, w16, w17, w18⟩ := W
  unfold f_B_isBlown
  rw [g5, bd, g0, bd]
  simp (disch := omega) only [l0, zI_eq, zI_le]
  by_cases c : v 16 = 0
  · rw [if_pos c]
    by_cases c2 : v 1 ≤ 0
    · rw [if_pos c2, if_neg (by omega)]
    · rw [if_neg c2, if_pos (by omega)]
  · rw [if_neg c, if_neg (by omega)]
def clr (v : Nat → Int) (c : Int) : Int := if 0 ≤ c ∧ mrd (zI (v 13)) c = true then v (18 + c.toNat) else -1
theorem clr_r {v : Nat → Int} (W : Wv v) {c : Int} (h : c < 24) : -1 ≤ clr v c ∧ clr v c ≤ 9 := by
  unfold clr
  split
  · have := W.2.2.2.2.2.2.2.2.2.2 c.toNat (by omega)
    omega
  · omega
theorem s_B_clearance {h : MH} {a : Nat} {v : Nat → Int} (B : h.1 a = bO v a) (B1 : h.1 (a + 1) = aZ 24 (fun j => v (18 + j))) {c : Int} (h1 : -1 ≤ c) (h2 : c < 24) : f_B_clearance (some a) (zI c) h = some (zI (clr v c)) := by
  obtain ⟨g0, g1, g2, g3, g4, g5, g6, g7, g8, g9, g10⟩ := b_g B
  unfold f_B_clearance b_B_clearance_28 b_B_clearance_29 clr mrd
  simp only [g9, bd, alenZ B1, g7]
  rw [if_pos trivial, if_neg (show ¬ (1 : Int32) = 0 by decide), l0]
  simp (disch := omega) only [zI_lt, zI_le]
  by_cases c1 : c < 0
  · rw [if_pos c1, if_neg (by omega)]; rfl
  · rw [if_neg c1, if_neg (by omega), aldZ B1 (by omega) (by omega) (by omega)]
    by_cases c2 : (zI (v 13) >>> (zI c &&& 31)) &&& 1 = zI 0
    · rw [if_pos c2, if_pos ⟨by omega, by simpa using c2⟩]; rfl
    · rw [if_neg c2, if_neg (fun z => c2 (by simpa using z.2))]; rfl
def shal (v : Nat → Int) (c t : Int) : Int := min (clr v c) (min (clr v (bes c t)) (clr v (bes c (t + 4))))
theorem shal_r {v : Nat → Int} (W : Wv v) {c t : Int} (h : c < 24) : -1 ≤ shal v c t ∧ shal v c t ≤ 9 := by
  have a1 := clr_r W h
  have a2 := clr_r W (c := bes c t) bes_r.2
  have a3 := clr_r W (c := bes c (t + 4)) bes_r.2
  unfold shal
  omega
theorem s_B_shallowest {h : MH} (E : Es h) {a : Nat} {v : Nat → Int} (W : Wv v) (B : h.1 a = bO v a) (B1 : h.1 (a + 1) = aZ 24 (fun j => v (18 + j))) {c t : Int} (h1 : -1 ≤ c) (h2 : c < 24) (h3 : 0 ≤ t) (h4 : t < 8) : f_B_shallowest (some a) (zI c) (zI t) h = some (zI (shal v c t)) := by
  have a1 := clr_r W h2
  have b2 := bes_r (c := c) (d := t)
  have b3 := bes_r (c := c) (d := t + 4)
  have a2 := clr_r W b2.2
  have a3 := clr_r W b3.2
  unfold f_B_shallowest shal
  simp (disch := omega) only [b_on B, l4, zI_add, s_beside E, s_B_clearance B B1, bd, zI_min]
theorem clr_free {v : Nat → Int} {x y d : Int} (hb : onB x y = true) (hd : 0 ≤ d) : d ≤ clr v (6 * y + x) ↔ vFree v x y d = true := by
  have := onB_iff.mp hb
  unfold clr vFree
  rw [hb]
  by_cases c : mrd (zI (v 13)) (6 * y + x) = true
  · rw [if_pos ⟨by omega, c⟩, c]
    simp
  · rw [if_neg (fun z => c z.2)]
    have : mrd (zI (v 13)) (6 * y + x) = false := by simpa using c
    rw [this]
    simp
    omega
theorem vFree_off {v : Nat → Int} {x y d : Int} (hb : ¬ onB x y = true) : vFree v x y d = false := by
  unfold vFree
  have : onB x y = false := by simpa using hb
  rw [this]
  rfl
theorem clr_m1 (v : Nat → Int) : clr v (-1) = -1 := by unfold clr; rw [if_neg (by omega)]
theorem clr_bes {v : Nat → Int} {c t d : Int} (h1 : 0 ≤ c) (hd : 0 ≤ d) : d ≤ clr v (bes c t) ↔ vFree v (c % 6 + gx (t % 8)) (c / 6 + gy (t % 8)) d = true := by
  unfold bes
  by_cases b : onB (c % 6 + gx (t % 8)) (c / 6 + gy (t % 8)) = true
  · rw [if_pos ⟨h1, b⟩]
    exact clr_free b hd
  · rw [if_neg (fun z => b z.2), clr_m1, vFree_off b]
    constructor
    · intro z; omega
    · intro z; cases z
theorem gx_4 : ∀ t : Int, 0 ≤ t → t < 8 → gx ((t + 4) % 8) = - gx t := mj_lt8 (by decide) (by decide) (by decide) (by decide) (by decide) (by decide) (by decide) (by decide)
theorem gy_4 : ∀ t : Int, 0 ≤ t → t < 8 → gy ((t + 4) % 8) = - gy t := mj_lt8 (by decide) (by decide) (by decide) (by decide) (by decide) (by decide) (by decide) (by decide)
theorem shal_fits {v : Nat → Int} {c t d : Int} (h1 : 0 ≤ c) (h2 : c < 24) (h3 : 0 ≤ t) (h4 : t < 8) (hd : 0 ≤ d) : d ≤ shal v c t ↔ vFits v (c % 6) (c / 6) t d = true := by
  have e0 : d ≤ clr v c ↔ vFree v (c % 6) (c / 6) d = true := by
    have hb : onB (c % 6) (c / 6) = true := onB_iff.mpr (by omega)
    have := clr_free (v := v) hb hd
    rwa [show 6 * (c / 6) + c % 6 = c by omega] at this
  have e1 := clr_bes (v := v) (t := t) h1 hd
  have e2 := clr_bes (v := v) (t := t + 4) h1 hd
  rw [gx_4 t h3 h4, gy_4 t h3 h4] at e2
  rw [show t % 8 = t by omega] at e1
  unfold shal vFits
  rw [Bool.and_eq_true, Bool.and_eq_true, Int.sub_eq_add_neg, Int.sub_eq_add_neg, ← e0, ← e1, ← e2]
  omega
theorem shal_m1 {v : Nat → Int} (W : Wv v) (t : Int) : shal v (-1) t = -1 := by
  have a2 := clr_r W (c := bes (-1) t) bes_r.2
  have a3 := clr_r W (c := bes (-1) (t + 4)) bes_r.2
  unfold shal
  rw [clr_m1]
  omega
theorem mj_all3 {P : Int → Int → Int → Prop} (h : ∀ c : Nat, c < 24 → ∀ t : Nat, t < 8 → ∀ m : Nat, m < 8 → P c t m) : ∀ c t m : Int, 0 ≤ c → c < 24 → 0 ≤ t → t < 8 → 0 ≤ m → m < 8 → P c t m := by
  intro c t m h1 h2 h3 h4 h5 h6
  have := h c.toNat (by omega) t.toNat (by omega) m.toNat (by omega)
  rwa [Int.toNat_of_nonneg h1, Int.toNat_of_nonneg h3, Int.toNat_of_nonneg h5] at this
theorem midB_geo : ∀ c t m : Int, 0 ≤ c → c < 24 → 0 ≤ t → t < 8 → 0 ≤ m → m < 8 →
    (midB c t m = -1 ∧ (onB (mX (c % 6) t m) (mY (c / 6) t m) && (onB (mX (c % 6) t m + gx (tT t m)) (mY (c / 6) t m + gy (tT t m)) && onB (mX (c % 6) t m - gx (tT t m)) (mY (c / 6) t m - gy (tT t m)))) = false) ∨ (onB (mX (c % 6) t m) (mY (c / 6) t m) = true ∧ midB c t m = 6 * mY (c / 6) t m + mX (c % 6) t m) := mj_all3 (by decide +kernel)
/-- where a move leads, and whether it can be made: the class's way and the reference's -/
theorem mid_fits {v : Nat → Int} (W : Wv v) {c t m d : Int} (h1 : 0 ≤ c) (h2 : c < 24) (h3 : 0 ≤ t) (h4 : t < 8) (h5 : 0 ≤ m) (h6 : m < 8) (hd : 0 ≤ d) : (d ≤ shal v (midB c t m) (tT t m) ↔ vFits v (mX (c % 6) t m) (mY (c / 6) t m) (tT t m) d = true) ∧ (vFits v (mX (c % 6) t m) (mY (c / 6) t m) (tT t m) d = true → midB c t m = 6 * mY (c / 6) t m + mX (c % 6) t m ∧ 0 ≤ midB c t m) := by
  have ht := tT_r (t := t) (m := m) h3 h4
  rcases midB_geo c t m h1 h2 h3 h4 h5 h6 with ⟨e, b⟩ | ⟨b, e⟩
  · have hF : vFits v (mX (c % 6) t m) (mY (c / 6) t m) (tT t m) d = false := by
      unfold vFits vFree
      revert b
      cases onB (mX (c % 6) t m) (mY (c / 6) t m) <;> cases onB (mX (c % 6) t m + gx (tT t m)) (mY (c / 6) t m + gy (tT t m)) <;> cases onB (mX (c % 6) t m - gx (tT t m)) (mY (c / 6) t m - gy (tT t m)) <;> simp
    rw [e, shal_m1 W, hF]
    refine ⟨⟨fun z => by omega, fun z => by cases z⟩, fun z => by cases z⟩
  · have hb := onB_iff.mp b
    have hc : 0 ≤ midB c t m ∧ midB c t m < 24 := by omega
    have k := shal_fits (v := v) (d := d) hc.1 hc.2 ht.1 ht.2 hd
    rw [show midB c t m % 6 = mX (c % 6) t m by omega, show midB c t m / 6 = mY (c / 6) t m by omega] at k
    exact ⟨k, fun _ => ⟨e, hc.1⟩⟩
/-! ===== hands ===== -/
def sM (s mi m : Int) : Int := if mk s m then (if m = 4 ∨ m = 5 then max 1 (mi / 2) else mi) else -1000000
theorem sC_mem (s : Int) : [2, 3, 4, 7, 8].contains (sC s) = true := by
  unfold sC
  (repeat' split) <;> rfl
theorem h_bits : ∀ s m : Int, 1 ≤ s → s ≤ 5 → 0 ≤ m → m < 8 → ((zI (sK s) >>> (zI m &&& 31)) &&& 1 = 1 ↔ mk s m = true) := mj_5x8 (by decide +kernel)
theorem s_H_min {h : MH} {p : Nat} {s n mi m : Int} (H : h.1 p = hC s n mi) (h1 : 1 ≤ s) (h2 : s ≤ 5) (h3 : 1 ≤ mi) (h4 : mi ≤ 20) (h5 : 0 ≤ m) (h6 : m < 8) : v_H_minutesFor (some p) (zI m) h = some (zI (sM s mi m)) := by
  have hc : cls h (some p) = some (sC s) := cls_o H
  have e0 : f_H_minutesFor (some p) (zI m) h = some (zI (if mk s m then mi else -1000000)) := by
    unfold f_H_minutesFor
    rw [gfi_o H (k := 2) rfl (sC_mem s), gfi_o H (k := 1) rfl (sC_mem s)]
    simp only [bd, h_bits s m h1 h2 h5 h6]
    simp (disch := omega) only [l0, l8, zI_lt, zI_le]
    rw [if_neg (by omega), if_neg (by omega), lN0]
    by_cases c : mk s m = true
    · rw [if_pos c, if_pos c]
    · rw [if_neg c, if_neg c]
  have e1 : s = 3 → f_Ro_minutesFor (some p) (zI m) h = some (zI (sM s mi m)) := by
    intro hs
    unfold f_Ro_minutesFor b_Ro_minutesFor_16 sM
    rw [e0, hc]
    simp only [bd]
    rw [show mj_hand (sC s) = some () by rw [hs]; rfl, bd]
    by_cases c : m = 4 ∨ m = 5
    · have : mk s m = true := by rw [hs]; rcases c with rfl | rfl <;> decide
      rw [if_pos this, if_pos this, if_pos c, l2, zI_div (by omega) (by omega) (by omega) (by omega), l1, zI_max (by omega) (by omega) (by omega) (by omega)]
      simp (disch := omega) only [l4, l5, zI_eq]
      rcases c with rfl | rfl
      · rw [if_pos rfl]
      · rw [if_neg (by decide), if_pos rfl]
    · simp (disch := omega) only [l4, l5, zI_eq]
      rw [if_neg (by omega), if_neg (by omega), if_neg c]
  have e2 : s ≠ 3 → (if mk s m then mi else -1000000) = sM s mi m := by
    intro hs
    unfold sM
    by_cases c : mk s m = true
    · rw [if_pos c, if_pos c]
      have : ∀ s m : Int, 1 ≤ s → s ≤ 5 → 0 ≤ m → m < 8 → s ≠ 3 → mk s m = true → ¬ (m = 4 ∨ m = 5) := mj_5x8 (by decide +kernel)
      rw [if_neg (this s m h1 h2 h5 h6 hs c)]
    · rw [if_neg c, if_neg c]
  unfold v_H_minutesFor
  rw [hc]
  rcases (show s = 1 ∨ s = 2 ∨ s = 3 ∨ s = 4 ∨ s = 5 by omega) with rfl | rfl | rfl | rfl | rfl
  · simp only [sC]
    simp (decide := true) only [if_true, if_false]
    rw [e0, e2 (by decide)]
  · simp only [sC]
    simp (decide := true) only [if_true, if_false]
    rw [e0, e2 (by decide)]
  · simp only [sC]
    simp (decide := true) only [if_true, if_false]
    rw [e1 rfl]
  · simp only [sC]
    simp (decide := true) only [if_true, if_false]
    rw [e0, e2 (by decide)]
  · simp only [sC]
    simp (decide := true) only [if_true, if_false]
    rw [e0, e2 (by decide)]
theorem s_H_lift {h : MH} {p : Nat} {s n mi : Int} (H : h.1 p = hC s n mi) (h1 : 1 ≤ s) (h2 : s ≤ 5) : v_H_lift (some p) h = some (zI (if s = 5 then 1 else 0)) := by
  have hc : cls h (some p) = some (sC s) := cls_o H
  unfold v_H_lift
  rw [hc]
  rcases (show s = 1 ∨ s = 2 ∨ s = 3 ∨ s = 4 ∨ s = 5 by omega) with rfl | rfl | rfl | rfl | rfl <;> rfl
theorem s_H_sort {h : MH} {p : Nat} {s n mi : Int} (H : h.1 p = hC s n mi) (h1 : 1 ≤ s) (h2 : s ≤ 5) : v_H_sort (some p) h = some (zI s) := by
  have hc : cls h (some p) = some (sC s) := cls_o H
  unfold v_H_sort
  rw [hc]
  rcases (show s = 1 ∨ s = 2 ∨ s = 3 ∨ s = 4 ∨ s = 5 by omega) with rfl | rfl | rfl | rfl | rfl <;> rfl
theorem s_handAt_no {h : MH} {a : Nat} {v : Nat → Int} (B : Bs h a v) (W : Wv v) {n : Int} (h1 : -2147483648 ≤ n) (h2 : n < 2147483648) (hn : ¬ (0 ≤ n ∧ n < v 4)) : f_B_handAt (some a) (zI n) h = some none := by
  obtain ⟨g0, g1, g2, g3, g4, g5, g6, g7, g8, g9, g10⟩ := b_g B.1
  have w4 := W.2.2.2.1
  unfold f_B_handAt
  simp only [g8, bd]
  rw [if_pos ((s_within0 h1 h2 w4.1 (by omega)).mpr hn)]
theorem s_handAt {h : MH} {a : Nat} {v : Nat → Int} (B : Bs h a v) (W : Wv v) {i : Nat} (hi : (i : Int) < v 4) : ∃ p, f_B_handAt (some a) (zI i) h = some (some p) ∧ 48 ≤ p ∧ h.1 p = hC (v (5 + i)) i (v (9 + i)) := by
  obtain ⟨g0, g1, g2, g3, g4, g5, g6, g7, g8, g9, g10⟩ := b_g B.1
  have w4 := W.2.2.2.1
  obtain ⟨B0, B1, g, B2, B3⟩ := B
  obtain ⟨p, p1, p2, p3⟩ := B3 i hi
  refine ⟨p, ?_, p2, p3⟩
  unfold f_B_handAt
  simp only [g8, g10, bd]
  have hl : alen h (some (a + 2)) = some (zI 4) := by
    simp only [alen, B2]
    rfl
  have hc : (zI (i : Int)).toNatClampNeg = i := by rw [zI_clamp (by omega) (by omega)]; omega
  have hq : qld h (some (a + 2)) 2 (zI i) = some (some p) := by
    have h0 : (0 : Int32) ≤ zI i := (zI_le (a := 0) (by omega) (by omega) (by omega) (by omega)).mpr (by omega)
    simp only [qld, mj_arq, B2, Option.bind_some, hc]
    rw [if_pos ⟨trivial, h0, by omega⟩, p1]
  rw [if_neg (fun z => (s_within0 (by omega) (by omega) w4.1 (by omega)).mp z ⟨by omega, hi⟩), hl]
  simp only [bd, hq]
  simp (disch := omega) only [zI_le]
  rw [if_neg (by omega)]
theorem vLift_max {s D : Int} (h1 : 0 ≤ D) : max 0 (D - (if s = 5 then 1 else 0)) = vLift s D ∧ 0 ≤ vLift s D := by
  unfold vLift
  by_cases c : s = 5
  · rw [if_pos c]
    by_cases c2 : 0 < D
    · rw [if_pos ⟨c, c2⟩]; omega
    · rw [if_neg (fun z => c2 z.2)]; omega
  · rw [if_neg c, if_neg (fun z => c z.1)]; omega
theorem s_B_canMake {h : MH} (E : Es h) {a : Nat} {v : Nat → Int} (W : Wv v) (B : Bs h a v) {i p : Nat} (hi : (i : Int) < v 4) (P : h.1 p = hC (v (5 + i)) i (v (9 + i))) {m : Int} (h5 : 0 ≤ m) (h6 : m < 8) : f_B_canMake (some a) (some p) (zI m) h = some (if (goV v i m 0).isSome then 1 else 0) := by
  obtain ⟨g0, g1, g2, g3, g4, g5, g6, g7, g8, g9, g10⟩ := b_g B.1
  have w5 := W.2.2.2.2.1 i hi
  have w14 := W.2.2.2.2.2.2.1
  have w15 := W.2.2.2.2.2.2.2.1
  have hd := vD_r W (less := 0) (by omega)
  obtain ⟨m1, m2⟩ := vLift_max (s := v (5 + i)) hd.1
  have hm := midB_r (t := v 15) (m := m) w14.1 (c := v 14) (by omega)
  have ht := tT_r (t := v 15) (m := m) w15.1 (by omega)
  have hs := shal_r W (c := midB (v 14) (v 15) m) (t := tT (v 15) m) hm.2
  have hf := (mid_fits W (c := v 14) (t := v 15) (m := m) (d := vLift (v (5 + i)) (vD v 0)) w14.1 (by omega) w15.1 (by omega) h5 h6 m2).1
  unfold f_B_canMake
  rw [s_B_sinks B.1 W, s_H_lift P w5.1 w5.2.1, s_H_min P w5.1 w5.2.1 w5.2.2.1 w5.2.2.2 h5 h6]
  simp only [b_on B.1, bd, g3, g4]
  rw [s_middleBehind E w14.1 (by omega) w15.1 (by omega) h5 h6, s_turnBehind w15.1 (by omega) h5 h6]
  simp only [bd]
  rw [s_B_shallowest E W B.1 B.2.1 hm.1 hm.2 ht.1 ht.2]
  simp only [bd]
  rw [l0, zI_sub, zI_max (by omega) (by omega) (by split <;> omega) (by split <;> omega), m1]
  have hl : vLift (v (5 + i)) (vD v 0) ≤ 8 := by unfold vLift; split <;> omega
  have hM : sM (v (5 + i)) (v (9 + i)) m = -1000000 ↔ mk (v (5 + i)) m = false := by
    unfold sM
    cases mk (v (5 + i)) m with
    | false => simp
    | true =>
      simp
      split <;> omega
  have hMr : -1000000 ≤ sM (v (5 + i)) (v (9 + i)) m ∧ sM (v (5 + i)) (v (9 + i)) m ≤ 100 := by
    unfold sM
    (repeat' split) <;> omega
  simp (disch := omega) only [lN0, zI_eq, zI_lt, hM]
  unfold goV
  cases hk : mk (v (5 + i)) m with
  | false => rfl
  | true =>
    rw [if_neg (by decide)]
    cases hq : vFits v (mX (v 14 % 6) (v 15) m) (mY (v 14 / 6) (v 15) m) (tT (v 15) m) (vLift (v (5 + i)) (vD v 0)) with
    | false =>
      have : ¬ vLift (v (5 + i)) (vD v 0) ≤ shal v (midB (v 14) (v 15) m) (tT (v 15) m) := fun z => by rw [hf.mp z] at hq; cases hq
      rw [if_pos (by omega)]
      rfl
    | true =>
      have := hf.mpr hq
      rw [if_neg (by omega)]
      rfl
theorem bF_len (v : Nat → Int) (b c : Nat) : (bF v b c).length = 11 := rfl
theorem bF_set3 (v : Nat → Int) (x : Int) (b c : Nat) : (bF v b c).set 3 (.int (zI x)) = bF (upI v 14 x) b c := rfl
theorem bF_set4 (v : Nat → Int) (x : Int) (b c : Nat) : (bF v b c).set 4 (.int (zI x)) = bF (upI v 15 x) b c := rfl
theorem bF_set5 (v : Nat → Int) (x : Int) (b c : Nat) : (bF v b c).set 5 (.int (zI x)) = bF (upI v 16 x) b c := rfl
theorem bF_set6 (v : Nat → Int) (x : Int) (b c : Nat) : (bF v b c).set 6 (.int (zI x)) = bF (upI v 17 x) b c := rfl
theorem bF_set7 (v : Nat → Int) (x : Int) (b c : Nat) : (bF v b c).set 7 (.int (zI x)) = bF (upI v 13 x) b c := rfl
theorem bF_set8 (v : Nat → Int) (x : Int) (b c : Nat) : (bF v b c).set 8 (.int (zI x)) = bF (upI v 4 x) b c := rfl
theorem bF_set0 (v : Nat → Int) (x : Int) (b c : Nat) : (bF v b c).set 0 (.int (zI x)) = bF (upI v 1 x) b c := rfl
theorem bF_set1 (v : Nat → Int) (x : Int) (b c : Nat) : (bF v b c).set 1 (.int (zI x)) = bF (upI v 2 x) b c := rfl
theorem bF_set2 (v : Nat → Int) (x : Int) (b c : Nat) : (bF v b c).set 2 (.int (zI x)) = bF (upI v 3 x) b c := rfl
/-- the basin's object alone has changed -/
theorem Bs_up {h : MH} {a : Nat} {v v' : Nat → Int} (ha : a < 46 ∨ ∀ i, 48 ≤ i → (∃ s n mi, h.1 i = hC s n mi) → i ≠ a) (B : Bs h a v) (h4 : v' 4 = v 4) (h5 : ∀ i : Nat, i < 4 → v' (5 + i) = v (5 + i) ∧ v' (9 + i) = v (9 + i)) (h18 : ∀ j : Nat, v' (18 + j) = v (18 + j)) (W : Wv v) : Bs (mj_up h a (bO v' a)) a v' := by
  obtain ⟨B0, B1, g, B2, B3⟩ := B
  have w4 := W.2.2.2.1
  refine ⟨by rw [up_get, if_pos rfl], ?_, g, by rw [up_get, if_neg (by omega)]; exact B2, ?_⟩
  · rw [up_get, if_neg (by omega), B1]
    congr 3
    funext j
    rw [h18]
  · intro i hi
    rw [h4] at hi
    obtain ⟨p, p1, p2, p3⟩ := B3 i hi
    have h5' := h5 i (by omega)
    refine ⟨p, p1, p2, ?_⟩
    rw [h5'.1, h5'.2, up_get, if_neg ?_]
    · exact p3
    · rcases ha with ha | ha
      · omega
      · exact ha p p2 ⟨_, _, _, p3⟩
theorem s_B_make {h : MH} (E : Es h) {a : Nat} (ha : 3 ≤ a) {v : Nat → Int} (W : Wv v) (h17 : v 17 < 50000) (B0 : h.1 a = bO v a) (B1 : h.1 (a + 1) = aZ 24 (fun j => v (18 + j))) {i : Nat} {m : Int} (h5 : 0 ≤ m) (h6 : m < 8) {v' : Nat → Int} (hg : goV v i m 0 = some v') : f_B_make (some a) (zI m) h = some (mj_up h a (bO v' a)) := by
  obtain ⟨g0, g1, g2, g3, g4, g5, g6, g7, g8, g9, g10⟩ := b_g B0
  have w1 := W.1
  have w14 := W.2.2.2.2.2.2.1
  have w15 := W.2.2.2.2.2.2.2.1
  have w17 := W.2.2.2.2.2.2.2.2.2.1
  have hd := vD_r W (less := 0) (by omega)
  have hm := midB_r (t := v 15) (m := m) w14.1 (c := v 14) (by omega)
  have ht := tT_r (t := v 15) (m := m) w15.1 (by omega)
  obtain ⟨m1, m2⟩ := vLift_max (s := v (5 + i)) hd.1
  unfold goV at hg
  split at hg
  · rename_i c
    rw [Bool.and_eq_true] at c
    obtain ⟨e1, e2⟩ := (mid_fits W (c := v 14) (t := v 15) (m := m) (d := vLift (v (5 + i)) (vD v 0)) w14.1 (by omega) w15.1 (by omega) h5 h6 m2).2 c.2
    have hv := Option.some.inj hg
    have hb := onB_iff.mp (vFits_onB c.2)
    obtain ⟨X, hX⟩ : ∃ X, X = mX (v 14 % 6) (v 15) m := ⟨_, rfl⟩
    obtain ⟨Y, hY⟩ : ∃ Y, Y = mY (v 14 / 6) (v 15) m := ⟨_, rfl⟩
    obtain ⟨T, hT⟩ : ∃ T, T = tT (v 15) m := ⟨_, rfl⟩
    rw [← hX, ← hY] at e1 hb
    rw [← hX, ← hY, ← hT] at hv
    rw [← hT] at ht
    -- the boat has moved, its turn, its moves
    obtain ⟨v1, hv1⟩ : ∃ v1, v1 = vSet v (v 17 + 1) (6 * Y + X) T := ⟨_, rfl⟩
    have W1 : Wv v1 := by rw [hv1]; exact Wv_set W (by omega) (by omega) (by omega) (by omega) ht.1 (by omega)
    have k14 : v1 14 = 6 * Y + X := by rw [hv1, vSet_14]
    have k15 : v1 15 = T := by rw [hv1, vSet_15]
    have k17 : v1 17 = v 17 + 1 := by rw [hv1, vSet_17]
    have k0 : ∀ k, k ≠ 14 → k ≠ 15 → k ≠ 17 → v1 k = v k := fun k z1 z2 z3 => by rw [hv1, vSet_0 _ _ _ _ z1 z2 z3]
    have C0 : (mj_up h a (bO v1 a)).1 a = bO v1 a := by rw [up_get, if_pos rfl]
    have C1 : (mj_up h a (bO v1 a)).1 (a + 1) = aZ 24 (fun j => v1 (18 + j)) := by
      rw [up_get, if_neg (by omega), B1]
      congr 3
      funext j
      rw [k0 _ (by omega) (by omega) (by omega)]
    have E1 : Es (mj_up h a (bO v1 a)) := by
      unfold Es
      rw [up_get, if_neg (by omega), up_get, if_neg (by omega)]
      exact E
    obtain ⟨u0, u1, u2, u3, u4, u5, u6, u7, u8, u9, u10⟩ := b_g C0
    have hset : bF (upI (upI (upI v 14 (6 * Y + X)) 15 T) 17 (v 17 + 1)) (a + 1) (a + 2) = bF v1 (a + 1) (a + 2) := by rw [vSet_ord, hv1]
    unfold f_B_make b_B_make_93
    simp only [g3, g4, bd]
    rw [s_middleBehind E w14.1 (by omega) w15.1 (by omega) h5 h6, e1]
    simp only [bd]
    rw [pfv_o B0 (by rw [bF_len]; decide) rfl, bF_set3]
    simp only [bd]
    have D1 : (mj_up h a (bO (upI v 14 (6 * Y + X)) a)).1 a = bO (upI v 14 (6 * Y + X)) a := by rw [up_get, if_pos rfl]
    rw [gfi_o D1 (k := 4) (x := zI (v 15)) rfl rfl]
    simp only [bd]
    rw [s_turnBehind w15.1 (by omega) h5 h6, ← hT, pfv_o D1 (by rw [bF_len]; decide) rfl, bF_set4, up_up]
    simp only [bd]
    have D2 : (mj_up h a (bO (upI (upI v 14 (6 * Y + X)) 15 T) a)).1 a = bO (upI (upI v 14 (6 * Y + X)) 15 T) a := by rw [up_get, if_pos rfl]
    rw [gfi_o D2 (k := 6) (x := zI (v 17)) rfl rfl]
    simp only [bd]
    rw [l1, zI_add, pfv_o D2 (by rw [bF_len]; decide) rfl, bF_set6, up_up, hset]
    simp only [bd, u6, u3, u4, u0, b_on C0]
    rw [k17, l3, zI_rem (by omega) (by omega) (by omega) (by omega), s_B_isBlown C0 W1, s_B_sinks C0 W1]
    have hrv : vD v1 0 = vD v 0 := by unfold vD; rw [k0 2 (by decide) (by decide) (by decide), k0 16 (by decide) (by decide) (by decide), k0 3 (by decide) (by decide) (by decide)]
    simp only [bd, ite_01]
    simp (disch := omega) only [l0, zI_eq]
    rw [k0 16 (by decide) (by decide) (by decide), k0 1 (by decide) (by decide) (by decide), hrv, k14, k15]
    have hsh : vFits v1 = vFits v := by
      funext x y t d
      unfold vFits vFree
      rw [k0 13 (by decide) (by decide) (by decide), k0 _ (by omega) (by omega) (by omega), k0 _ (by omega) (by omega) (by omega), k0 _ (by omega) (by omega) (by omega)]
    by_cases c3 : (v 17 + 1) % 3 = 0
    · rw [if_pos c3]
      by_cases cb : v 16 = 0 ∧ 0 < v 1
      · rw [if_neg (fun z => z cb), zI_sub, s_beside E1 (by omega) (by omega) (by omega) (by omega)]
        simp only [bd]
        have rb := bes_r (c := 6 * Y + X) (d := v 1 - 1)
        have rs := shal_r W1 (c := bes (6 * Y + X) (v 1 - 1)) (t := T) rb.2
        rw [s_B_shallowest E1 W1 C0 C1 rb.1 rb.2 ht.1 ht.2]
        simp only [bd]
        simp (disch := omega) only [zI_lt]
        have hbe : vBlow v (v 17 + 1) (v 1) X Y T (vD v 0) = true ↔ vD v 0 ≤ shal v1 (bes (6 * Y + X) (v 1 - 1)) T ∧ 0 ≤ bes (6 * Y + X) (v 1 - 1) := by
          unfold vBlow
          rw [Bool.and_eq_true, Bool.and_eq_true, decide_eq_true_eq, decide_eq_true_eq, ← hsh]
          unfold bes
          rw [show (6 * Y + X) % 6 = X by omega, show (6 * Y + X) / 6 = Y by omega, show (v 1 - 1) % 8 = v 1 - 1 by omega]
          by_cases b : onB (X + gx (v 1 - 1)) (Y + gy (v 1 - 1)) = true
          · have hb2 := onB_iff.mp b
            rw [if_pos ⟨by omega, b⟩, shal_fits (by omega) (by omega) ht.1 ht.2 hd.1, show (6 * (Y + gy (v 1 - 1)) + (X + gx (v 1 - 1))) % 6 = X + gx (v 1 - 1) by omega, show (6 * (Y + gy (v 1 - 1)) + (X + gx (v 1 - 1))) / 6 = Y + gy (v 1 - 1) by omega]
            constructor
            · intro z; exact ⟨z.2.2, by omega⟩
            · intro z; exact ⟨⟨c3, cb.2⟩, cb.1, z.1⟩
          · rw [if_neg (fun z => b z.2)]
            constructor
            · intro z; exact absurd (vFits_onB z.2.2) b
            · intro z; omega
        rw [hv.symm]
        unfold vMid
        by_cases cs : shal v1 (bes (6 * Y + X) (v 1 - 1)) T < vD v 0
        · rw [if_pos cs, if_neg (fun z => by have := (hbe.mp z).1; omega), pfv_o C0 (by rw [bF_len]; decide) rfl, bF_set3, up_up, show upI v1 14 (6 * Y + X) = v1 by rw [← k14]; exact upI_id _ _, hv1]
          rfl
        · have hpos : 0 ≤ bes (6 * Y + X) (v 1 - 1) := by
            by_cases z : 0 ≤ bes (6 * Y + X) (v 1 - 1)
            · exact z
            · have : bes (6 * Y + X) (v 1 - 1) = -1 := by omega
              rw [this, shal_m1 W1] at cs
              omega
          have hbl := hbe.mpr ⟨by omega, hpos⟩
          have hbb : bes (6 * Y + X) (v 1 - 1) = 6 * (Y + gy (v 1 - 1)) + (X + gx (v 1 - 1)) := by
            unfold vBlow at hbl
            rw [Bool.and_eq_true, Bool.and_eq_true] at hbl
            unfold bes
            rw [show (6 * Y + X) % 6 = X by omega, show (6 * Y + X) / 6 = Y by omega, show (v 1 - 1) % 8 = v 1 - 1 by omega]
            rw [if_pos ⟨by omega, vFits_onB hbl.2.2⟩]
          rw [if_neg cs, if_pos hbl, pfv_o C0 (by rw [bF_len]; decide) rfl, bF_set3, up_up, hbb, hv1]
          have : upI (vSet v (v 17 + 1) (6 * Y + X) T) 14 (6 * (Y + gy (v 1 - 1)) + (X + gx (v 1 - 1))) = vSet v (v 17 + 1) (6 * (Y + gy (v 1 - 1)) + (X + gx (v 1 - 1))) T := by
            rw [← vSet_ord, ← vSet_ord]
            funext k
            unfold upI
            by_cases h1 : k = 14
            · subst h1; simp
            · by_cases h2 : k = 15
              · subst h2; simp
              · by_cases h3 : k = 17
                · subst h3; simp
                · simp [h1, h2, h3]
          rw [this]
          rfl
      · rw [if_pos cb, ← hv]
        unfold vMid
        rw [if_neg (fun z => by unfold vBlow at z; rw [Bool.and_eq_true, Bool.and_eq_true, decide_eq_true_eq, decide_eq_true_eq] at z; exact cb ⟨z.2.1, z.1.2⟩), hv1]
    · rw [if_neg c3, ← hv]
      unfold vMid
      rw [if_neg (fun z => by unfold vBlow at z; rw [Bool.and_eq_true, Bool.and_eq_true, decide_eq_true_eq, decide_eq_true_eq] at z; exact c3 z.1.1), hv1]
  · cases hg
