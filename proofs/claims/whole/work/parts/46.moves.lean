/-! ===== a basin as 42 numbers, and its moves ===== -/
/-- what is so of a basin's numbers -/
def Wv (v : Nat → Int) : Prop :=
  (0 ≤ v 1 ∧ v 1 ≤ 8) ∧ (0 ≤ v 2 ∧ v 2 ≤ 5) ∧ (0 ≤ v 3 ∧ v 3 ≤ 3) ∧ (0 ≤ v 4 ∧ v 4 ≤ 4) ∧ (∀ i : Nat, (i : Int) < v 4 → 1 ≤ v (5 + i) ∧ v (5 + i) ≤ 5 ∧ 1 ≤ v (9 + i) ∧ v (9 + i) ≤ 20) ∧ (0 ≤ v 13 ∧ v 13 < 16777216) ∧ (0 ≤ v 14 ∧ v 14 ≤ 23) ∧ (0 ≤ v 15 ∧ v 15 ≤ 7) ∧ (0 ≤ v 16 ∧ v 16 ≤ 1) ∧ (0 ≤ v 17 ∧ v 17 ≤ 50000) ∧ ∀ k : Nat, k < 24 → 0 ≤ v (18 + k) ∧ v (18 + k) ≤ 9
def vD (v : Nat → Int) (less : Int) : Int := max 0 (v 2 + (if v 16 = 1 then v 3 else 0) - less)
theorem vD_r {v : Nat → Int} (W : Wv v) {less : Int} (h : 0 ≤ less) : 0 ≤ vD v less ∧ vD v less ≤ 8 := by
  obtain ⟨-, w2, w3, -⟩ := W
  unfold vD
  split <;> omega
theorem rDraught_Z {v : Nat → Int} (W : Wv v) {less : Int} (h1 : 0 ≤ less) (h2 : less ≤ 100) : rDraught (fZ v) (zI less) = zI (vD v less) := by
  obtain ⟨-, w2, w3, -, -, -, -, -, w16, -, -⟩ := W
  unfold rDraught vD fZ
  simp (disch := omega) only [l0, l1, zI_eq, zI_ite, zI_add, zI_sub]
  by_cases c : v 16 = 1
  · simp only [if_pos c]
    simp (disch := omega) only [zI_le, zI_ite]
    congr 1
  · simp only [if_neg c]
    simp (disch := omega) only [zI_le, zI_ite]
    congr 1
def vFree (v : Nat → Int) (x y d : Int) : Bool := onB x y && (mrd (zI (v 13)) (6 * y + x) && decide (d ≤ v (18 + (6 * y + x).toNat)))
def vFits (v : Nat → Int) (x y t d : Int) : Bool := vFree v x y d && (vFree v (x + gx t) (y + gy t) d && vFree v (x - gx t) (y - gy t) d)
theorem rFree_Z {v : Nat → Int} (W : Wv v) {d : Int} (h1 : -100 ≤ d) (h2 : d ≤ 100) (x y : Int) : rFree (fZ v) x y (zI d) = vFree v x y d := by
  unfold rFree vFree
  cases hb : onB x y with
  | false => rfl
  | true =>
    have hr := onB_iff.mp hb
    have w := W.2.2.2.2.2.2.2.2.2.2 (6 * y + x).toNat (by omega)
    unfold fZ
    simp (disch := omega) only [zI_lt]
    by_cases c : d ≤ v (18 + (6 * y + x).toNat)
    · rw [decide_eq_true c, decide_eq_false (by omega)]; rfl
    · rw [decide_eq_false c, decide_eq_true (by omega)]; rfl
theorem rFits_Z {v : Nat → Int} (W : Wv v) {d : Int} (h1 : -100 ≤ d) (h2 : d ≤ 100) (x y t : Int) : rFits (fZ v) x y t (zI d) = vFits v x y t d := by
  unfold rFits vFits
  rw [rFree_Z W h1 h2, rFree_Z W h1 h2, rFree_Z W h1 h2]
theorem vFits_onB {v : Nat → Int} {x y t d : Int} (h : vFits v x y t d = true) : onB x y = true := by
  unfold vFits vFree at h
  simp only [Bool.and_eq_true] at h
  exact h.1.1
def vLift (s d : Int) : Int := if s = 5 ∧ 0 < d then d - 1 else d
def vBlow (v : Nat → Int) (md w x y t d : Int) : Bool := decide (md % 3 = 0 ∧ 0 < w) && (decide (v 16 = 0) && vFits v (x + gx (w - 1)) (y + gy (w - 1)) t d)
def vMid (v : Nat → Int) (md w x y t d : Int) : Int := if vBlow v md w x y t d then 6 * (y + gy (w - 1)) + (x + gx (w - 1)) else 6 * y + x
def vSet (v : Nat → Int) (md mid t : Int) : Nat → Int := upI (upI (upI v 17 md) 14 mid) 15 t
theorem rLift_Z {s d : Int} (h1 : -100 ≤ d) (h2 : d ≤ 100) : rLift s (zI d) = zI (vLift s d) := by
  unfold rLift vLift
  simp (disch := omega) only [l0, l1, zI_lt, zI_sub, zI_ite]
theorem rBlow_Z {v : Nat → Int} (W : Wv v) {d : Int} (h1 : -100 ≤ d) (h2 : d ≤ 100) (md w x y t : Int) : rBlow (fZ v) md w x y t (zI d) = vBlow v md w x y t d := by
  unfold rBlow vBlow
  rw [rFits_Z W h1 h2]
  have w16 := W.2.2.2.2.2.2.2.2.1
  have : (fZ v 16 == 0) = decide (v 16 = 0) := by
    unfold fZ
    by_cases c : v 16 = 0
    · rw [decide_eq_true c, c]; rfl
    · rw [decide_eq_false c, beq_eq_false_iff_ne]
      intro e
      rw [l0, zI_eq (by omega) (by omega) (by omega) (by omega)] at e
      exact c e
  rw [this]
theorem rMid_Z {v : Nat → Int} (W : Wv v) {d : Int} (h1 : -100 ≤ d) (h2 : d ≤ 100) (md w x y t : Int) : rMid (fZ v) md w x y t (zI d) = vMid v md w x y t d := by
  unfold rMid vMid
  rw [rBlow_Z W h1 h2]
theorem rSet_Z (v : Nat → Int) (md mid t : Int) : rSet (fZ v) md mid t = fZ (vSet v md mid t) := by
  unfold rSet vSet
  rw [upd_Z, upd_Z, upd_Z]
theorem vMid_r {v : Nat → Int} {md w x y t d : Int} (h : onB x y = true) : 0 ≤ vMid v md w x y t d ∧ vMid v md w x y t d ≤ 23 := by
  unfold vMid
  by_cases c : vBlow v md w x y t d = true
  · rw [if_pos c]
    unfold vBlow at c
    simp only [Bool.and_eq_true] at c
    have := onB_iff.mp (vFits_onB c.2.2)
    omega
  · rw [if_neg c]
    have := onB_iff.mp h
    omega
/-- a move m by hand i: the numbers behind it -/
def goV (v : Nat → Int) (i : Nat) (m less : Int) : Option (Nat → Int) :=
  if mk (v (5 + i)) m && vFits v (mX (v 14 % 6) (v 15) m) (mY (v 14 / 6) (v 15) m) (tT (v 15) m) (vLift (v (5 + i)) (vD v less)) then
    some (vSet v (v 17 + 1) (vMid v (v 17 + 1) (v 1) (mX (v 14 % 6) (v 15) m) (mY (v 14 / 6) (v 15) m) (tT (v 15) m) (vD v less)) (tT (v 15) m))
  else none
theorem vSet_0 (v : Nat → Int) (md mid t : Int) {k : Nat} (h1 : k ≠ 14) (h2 : k ≠ 15) (h3 : k ≠ 17) : vSet v md mid t k = v k := by
  unfold vSet
  rw [upI_n _ _ h2, upI_n _ _ h1, upI_n _ _ h3]
theorem vSet_14 (v : Nat → Int) (md mid t : Int) : vSet v md mid t 14 = mid := by
  unfold vSet
  rw [upI_n _ _ (by decide), upI_s]
theorem vSet_15 (v : Nat → Int) (md mid t : Int) : vSet v md mid t 15 = t := by
  unfold vSet
  rw [upI_s]
theorem vSet_17 (v : Nat → Int) (md mid t : Int) : vSet v md mid t 17 = md := by
  unfold vSet
  rw [upI_n _ _ (by decide), upI_n _ _ (by decide), upI_s]
theorem vSet_vSet (v : Nat → Int) (a b c a' b' c' : Int) : vSet (vSet v a b c) a' b' c' = vSet v a' b' c' := by
  funext k
  by_cases h1 : k = 14
  · rw [h1, vSet_14, vSet_14]
  · by_cases h2 : k = 15
    · rw [h2, vSet_15, vSet_15]
    · by_cases h3 : k = 17
      · rw [h3, vSet_17, vSet_17]
      · rw [vSet_0 _ _ _ _ h1 h2 h3, vSet_0 _ _ _ _ h1 h2 h3, vSet_0 _ _ _ _ h1 h2 h3]
theorem vSet_id (v : Nat → Int) : vSet v (v 17) (v 14) (v 15) = v := by
  funext k
  by_cases h1 : k = 14
  · rw [h1, vSet_14]
  · by_cases h2 : k = 15
    · rw [h2, vSet_15]
    · by_cases h3 : k = 17
      · rw [h3, vSet_17]
      · rw [vSet_0 _ _ _ _ h1 h2 h3]
theorem Wv_set {v : Nat → Int} (W : Wv v) {md mid t : Int} (h1 : 0 ≤ md) (h2 : md ≤ 50000) (h3 : 0 ≤ mid) (h4 : mid ≤ 23) (h5 : 0 ≤ t) (h6 : t ≤ 7) : Wv (vSet v md mid t) := by
  obtain ⟨w1, w2, w3, w4, w5, w13, w14, w15, w16, w17, w18⟩ := W
  refine ⟨?_, ?_, ?_, ?_, ?_, ?_, ?_, ?_, ?_, ?_, ?_⟩
  · rw [vSet_0 _ _ _ _ (by decide) (by decide) (by decide)]; exact w1
  · rw [vSet_0 _ _ _ _ (by decide) (by decide) (by decide)]; exact w2
  · rw [vSet_0 _ _ _ _ (by decide) (by decide) (by decide)]; exact w3
  · rw [vSet_0 _ _ _ _ (by decide) (by decide) (by decide)]; exact w4
  · intro i hi
    rw [vSet_0 _ _ _ _ (by decide) (by decide) (by decide)] at hi
    rw [vSet_0 _ _ _ _ (by omega) (by omega) (by omega), vSet_0 _ _ _ _ (by omega) (by omega) (by omega)]
    exact w5 i hi
  · rw [vSet_0 _ _ _ _ (by decide) (by decide) (by decide)]; exact w13
  · rw [vSet_14]; exact ⟨h3, h4⟩
  · rw [vSet_15]; exact ⟨h5, h6⟩
  · rw [vSet_0 _ _ _ _ (by decide) (by decide) (by decide)]; exact w16
  · rw [vSet_17]; exact ⟨h1, h2⟩
  · intro k hk
    rw [vSet_0 _ _ _ _ (by omega) (by omega) (by omega)]
    exact w18 k hk
theorem goV_W {v : Nat → Int} (W : Wv v) (h17 : v 17 < 50000) {i : Nat} {m less : Int} {v' : Nat → Int} (h : goV v i m less = some v') : Wv v' ∧ v' 17 = v 17 + 1 ∧ ∀ k, k ≠ 14 → k ≠ 15 → k ≠ 17 → v' k = v k := by
  unfold goV at h
  split at h
  · rename_i c
    rw [Bool.and_eq_true] at c
    have hb := vFits_onB c.2
    have w15 := W.2.2.2.2.2.2.2.1
    have w17 := W.2.2.2.2.2.2.2.2.2.1
    have ht := tT_r (t := v 15) (m := m) w15.1 (by omega)
    have hm := vMid_r (v := v) (md := v 17 + 1) (w := v 1) (t := tT (v 15) m) (d := vD v less) hb
    cases h
    exact ⟨Wv_set W (by omega) (by omega) hm.1 hm.2 ht.1 (by omega), vSet_17 _ _ _ _, fun k h1 h2 h3 => vSet_0 _ _ _ _ h1 h2 h3⟩
  · cases h
def vMin (v : Nat → Int) (i : Nat) (m : Int) : Int := if m = 4 ∨ m = 5 then max 1 (v (9 + i) / 2) else v (9 + i)
theorem vMin_r {v : Nat → Int} (W : Wv v) {i : Nat} (hi : (i : Int) < v 4) (m : Int) : 1 ≤ vMin v i m ∧ vMin v i m ≤ 20 := by
  have := W.2.2.2.2.1 i hi
  unfold vMin
  split <;> omega
theorem rMin_Z {v : Nat → Int} (W : Wv v) {i : Nat} (hi : (i : Int) < v 4) (m : Int) : rMin (fZ v) i m = zI (vMin v i m) := by
  have := W.2.2.2.2.1 i hi
  unfold rMin vMin fZ
  rw [l1, l2, zI_div (by omega) (by omega) (by omega) (by omega)]
  simp (disch := omega) only [zI_le, zI_ite]
  congr 1
theorem s_M_min {h : MH} {a : Nat} {v : Nat → Int} (H : h.1 a = aZ 42 v) (W : Wv v) {i : Nat} (hi : (i : Int) < v 4) {m : Int} (h1 : 0 ≤ m) (h2 : m < 8) : f_M_minutesOf (some a) (zI i) (zI m) h = some (zI (vMin v i m)) := by
  rw [s_M_minutesOf H (by have := W.2.2.2.1; omega) h1 h2, rMin_Z W hi]
set_option maxHeartbeats 1000000 in
theorem s_M_goes {h : MH} {a : Nat} {v : Nat → Int} (H : h.1 a = aZ 42 v) (W : Wv v) (ha : 3 ≤ a) {i : Nat} (hi : (i : Int) < v 4) {m less : Int} (hm1 : 0 ≤ m) (hm2 : m < 8) (hl1 : 0 ≤ less) (hl2 : less ≤ 100) : f_M_goes (some a) (zI i) (zI m) (zI less) h = some (match goV v i m less with
    | some v' => (1, mj_up h a (aZ 42 v'))
    | none => (0, h)) := by
  obtain ⟨w1, w2, w3, w4, w5, w13, w14, w15, w16, w17, w18⟩ := id W
  have w5' := w5 i hi
  have key : ∀ x y t : Int, -50 ≤ x → x ≤ 50 → -50 ≤ y → y ≤ 50 → 0 ≤ t → t < 8 → x = mX (v 14 % 6) (v 15) m → y = mY (v 14 / 6) (v 15) m → t = tT (v 15) m → b_M_goes_199 (some a) (zI i) (zI m) (zI less) (zI x) (zI y) (zI t) h = some (match goV v i m less with
      | some v' => (1, mj_up h a (aZ 42 v'))
      | none => (0, h)) := by
    intro x y t a1 a2 a3 a4 a5 a6 ex ey et
    have hd := vD_r W hl1
    rw [p199 (r := fZ v) (s := v (5 + i)) (w := v 1) (md := v 17) H ha (by omega) rfl rfl rfl (by omega) (by omega) (by omega) (by omega) (by omega) (by omega) hm1 hm2 a5 a6 a1 a2 a3 a4, rDraught_Z W hl1 hl2, rLift_Z (by omega) (by omega), rFits_Z W (by unfold vLift; split <;> omega) (by unfold vLift; split <;> omega), rMid_Z W (by omega) (by omega), rSet_Z, ex, ey, et]
    unfold goV
    split <;> rfl
  unfold f_M_goes
  rw [l14, l15, aldZ H (k := 14) (by omega) (by omega) (by omega), aldZ H (k := 15) (by omega) (by omega) (by omega)]
  simp only [bd]
  have q14 : zI (v (14 : Int).toNat) = zI (v 14) := rfl
  have q15 : zI (v (15 : Int).toNat) = zI (v 15) := rfl
  rw [q14, q15, l6, zI_rem (a := v 14) (by omega) (by omega) (by omega) (by omega), zI_div (a := v 14) (by omega) (by omega) (by omega) (by omega)]
  have a1 : 0 ≤ v 14 % 6 ∧ v 14 % 6 < 6 := by omega
  have a2 : 0 ≤ v 14 / 6 ∧ v 14 / 6 < 4 := by omega
  obtain ⟨x, hx⟩ : ∃ x, x = v 14 % 6 := ⟨_, rfl⟩
  obtain ⟨y, hy⟩ : ∃ y, y = v 14 / 6 := ⟨_, rfl⟩
  rw [← hx, ← hy] at key ⊢
  rw [← hx] at a1
  rw [← hy] at a2
  have g1 := gx_le (v 15)
  have g2 := gy_le (v 15)
  have dxo := s_M_dx (v 15) w15.1 (by omega)
  have dyo := s_M_dy (v 15) w15.1 (by omega)
  have a7 : ∀ a : Int, 0 ≤ a → a < 16 → zI a &&& zI 7 = zI (a % 8) := zI_and7
  have dx : ∀ t : Int, 0 ≤ t → t < 8 → f_M_dx (zI t) = zI (gx t) := s_M_dx
  have dy : ∀ t : Int, 0 ≤ t → t < 8 → f_M_dy (zI t) = zI (gy t) := s_M_dy
  rcases (show m = 0 ∨ m = 1 ∨ m = 2 ∨ m = 3 ∨ m = 4 ∨ m = 5 ∨ m = 6 ∨ m = 7 by omega) with rfl | rfl | rfl | rfl | rfl | rfl | rfl | rfl <;>
    simp (disch := omega) only [l2, l3, l4, l5, l6, l7, l1, l0, zI_le, zI_eq, zI_rem, zI_add, a7, b_M_goes_48, b_M_goes_52, b_M_goes_64, b_M_goes_109, b_M_goes_171, b_M_goes_196, Int.reduceLE, Int.reduceEq, Int.reduceMod, ↓reduceIte]
  · exact key _ _ _ (by omega) (by omega) (by omega) (by omega) (by omega) (by omega) rfl rfl rfl
  · exact key _ _ _ (by omega) (by omega) (by omega) (by omega) (by omega) (by omega) rfl rfl rfl
  · have g3 := gx_le ((v 15 + 1) % 8)
    have g4 := gy_le ((v 15 + 1) % 8)
    simp (disch := omega) only [dx, dy, zI_sub, zI_add]
    exact key _ _ _ (by omega) (by omega) (by omega) (by omega) (by omega) (by omega) rfl rfl rfl
  · have g3 := gx_le ((v 15 + 7) % 8)
    have g4 := gy_le ((v 15 + 7) % 8)
    simp (disch := omega) only [dx, dy, zI_sub, zI_add]
    exact key _ _ _ (by omega) (by omega) (by omega) (by omega) (by omega) (by omega) rfl rfl rfl
  · have g3 := gx_le ((v 15 + 1) % 8)
    have g4 := gy_le ((v 15 + 1) % 8)
    simp (disch := omega) only [dx, dy, zI_sub, zI_add]
    exact key _ _ _ (by omega) (by omega) (by omega) (by omega) (by omega) (by omega) rfl rfl rfl
  · have g3 := gx_le ((v 15 + 7) % 8)
    have g4 := gy_le ((v 15 + 7) % 8)
    simp (disch := omega) only [dx, dy, zI_sub, zI_add]
    exact key _ _ _ (by omega) (by omega) (by omega) (by omega) (by omega) (by omega) rfl rfl rfl
  · simp (disch := omega) only [dx, dy, zI_sub, zI_add]
    exact key _ _ _ (by omega) (by omega) (by omega) (by omega) (by omega) (by omega) rfl rfl rfl
  · simp (disch := omega) only [dx, dy, zI_neg, zI_sub, zI_add]
    exact key _ _ _ (by omega) (by omega) (by omega) (by omega) (by omega) (by omega) rfl rfl rfl
/-- the numbers of a node -/
def ndV (v : Nat → Int) : Int := 24 * v 14 + 3 * v 15 + v 17 % 3
def ptV (v : Nat → Int) (k : Int) : Nat → Int := vSet v (k % 3) (k / 24) (k / 3 % 8)
/-- the node behind a move from node k -/
def eV (v : Nat → Int) (i : Nat) (m less k : Int) : Option Int := (goV (ptV v k) i m less).map ndV
theorem ndV_r {v : Nat → Int} (W : Wv v) : 0 ≤ ndV v ∧ ndV v < 576 := by
  obtain ⟨-, -, -, -, -, -, w14, w15, -, w17, -⟩ := W
  unfold ndV
  omega
theorem ptV_W {v : Nat → Int} (W : Wv v) {k : Int} (h1 : 0 ≤ k) (h2 : k < 576) : Wv (ptV v k) := Wv_set W (by omega) (by omega) (by omega) (by omega) (by omega) (by omega)
theorem s_M_node {h : MH} {a : Nat} {v : Nat → Int} (H : h.1 a = aZ 42 v) (W : Wv v) : f_M_node (some a) h = some (zI (ndV v)) := by
  obtain ⟨-, -, -, -, -, -, w14, w15, -, w17, -⟩ := W
  unfold f_M_node ndV
  rw [l14, l15, l17, aldZ H (k := 14) (by omega) (by omega) (by omega), aldZ H (k := 15) (by omega) (by omega) (by omega), aldZ H (k := 17) (by omega) (by omega) (by omega)]
  simp only [bd]
  have q14 : zI (v (14 : Int).toNat) = zI (v 14) := rfl
  have q15 : zI (v (15 : Int).toNat) = zI (v 15) := rfl
  have q17 : zI (v (17 : Int).toNat) = zI (v 17) := rfl
  rw [q14, q15, q17, l3, l24, zI_rem (a := v 17) (by omega) (by omega) (by omega) (by omega), zI_mul, zI_mul, zI_add, zI_add]
theorem vSet_ord (v : Nat → Int) (md mid t : Int) : upI (upI (upI v 14 mid) 15 t) 17 md = vSet v md mid t := by
  funext k
  unfold vSet upI
  by_cases h1 : k = 14
  · subst h1; simp
  · by_cases h2 : k = 15
    · subst h2; simp
    · by_cases h3 : k = 17
      · subst h3; simp
      · simp [h1, h2, h3]
theorem s_set3 {h : MH} {a : Nat} {v : Nat → Int} (H : h.1 a = aZ 42 v) (ha : 3 ≤ a) (mid t md : Int) :
    (Option.bind (ast h (some a) 0 14 (zI mid)) fun h1 => Option.bind (ast h1 (some a) 0 15 (zI t)) fun h3 => ast h3 (some a) 0 17 (zI md)) = some (mj_up h a (aZ 42 (vSet v md mid t))) := by
  rw [l14, astZ H ha (by omega) (by omega) (by omega), bd, l15, astZ (n := 42) (f := upI v (14 : Int).toNat mid) (by rw [up_get, if_pos rfl]) ha (by omega) (by omega) (by omega), bd, l17, astZ (n := 42) (f := upI (upI v (14 : Int).toNat mid) (15 : Int).toNat t) (by rw [up_get, if_pos rfl]) ha (by omega) (by omega) (by omega), up_up, up_up, ← vSet_ord]
  rfl
theorem s_M_puts {h : MH} {a : Nat} {v : Nat → Int} (H : h.1 a = aZ 42 v) (ha : 3 ≤ a) {k : Int} (h1 : 0 ≤ k) (h2 : k < 576) : f_M_puts (some a) (zI k) h = some (mj_up h a (aZ 42 (ptV v k))) := by
  have := s_set3 H ha (k / 24) (k / 3 % 8) (k % 3)
  unfold f_M_puts ptV
  rw [l24, l3, l8, zI_div (a := k) (by omega) (by omega) (by omega) (by omega), zI_div (a := k) (by omega) (by omega) (by omega) (by omega), zI_rem (a := k / 3) (by omega) (by omega) (by omega) (by omega), zI_rem (a := k) (by omega) (by omega) (by omega) (by omega), ← this]
  cases ast h (some a) 0 14 (zI (k / 24)) with
  | none => rfl
  | some g =>
    simp only [bd]
    cases ast g (some a) 0 15 (zI (k / 3 % 8)) with
    | none => rfl
    | some g2 =>
      simp only [bd]
      cases ast g2 (some a) 0 17 (zI (k % 3)) <;> rfl
def noV (o : Option Int) : Int := match o with
  | some k => k
  | none => -1000000
theorem s_M_behind {h : MH} {a : Nat} {v : Nat → Int} (H : h.1 a = aZ 42 v) (W : Wv v) (ha : 3 ≤ a) {i : Nat} (hi : (i : Int) < v 4) {m less k : Int} (hm1 : 0 ≤ m) (hm2 : m < 8) (hl1 : 0 ≤ less) (hl2 : less ≤ 100) (h1 : 0 ≤ k) (h2 : k < 576) : f_M_behind (some a) (zI k) (zI i) (zI m) (zI less) h = some (zI (noV (eV v i m less k)), h) := by
  have W1 := ptV_W W h1 h2
  have H1 : (mj_up h a (aZ 42 (ptV v k))).1 a = aZ 42 (ptV v k) := by rw [up_get, if_pos rfl]
  have i1 : (i : Int) < ptV v k 4 := by unfold ptV; rw [vSet_0 _ _ _ _ (by decide) (by decide) (by decide)]; exact hi
  have g := s_M_goes H1 W1 ha i1 hm1 hm2 hl1 hl2
  have back : ∀ (w : Nat → Int) (x : Int), (∀ q, q ≠ 14 → q ≠ 15 → q ≠ 17 → w q = v q) → b_M_behind_43 (some a) (zI (v 14)) (zI (v 15)) (zI (v 17)) (zI x) (mj_up h a (aZ 42 w)) = some (zI x, h) := by
    intro w x hw
    unfold b_M_behind_43
    have := s_set3 (h := mj_up h a (aZ 42 w)) (v := w) (by rw [up_get, if_pos rfl]) ha (v 14) (v 15) (v 17)
    have e : vSet w (v 17) (v 14) (v 15) = v := by
      funext q
      by_cases h1 : q = 14
      · rw [h1, vSet_14]
      · by_cases h2 : q = 15
        · rw [h2, vSet_15]
        · by_cases h3 : q = 17
          · rw [h3, vSet_17]
          · rw [vSet_0 _ _ _ _ h1 h2 h3, hw q h1 h2 h3]
    rw [e, up_up, ← H, up_id] at this
    revert this
    cases ast (mj_up h a (aZ 42 w)) (some a) 0 14 (zI (v 14)) with
    | none => intro e; cases e
    | some g =>
      simp only [bd]
      cases ast g (some a) 0 15 (zI (v 15)) with
      | none => intro e; cases e
      | some g2 =>
        simp only [bd]
        intro e
        rw [e]
        rfl
  unfold f_M_behind
  rw [s_M_puts H ha h1 h2]
  rw [l14, l15, l17, aldZ H (k := 14) (by omega) (by omega) (by omega), aldZ H (k := 15) (by omega) (by omega) (by omega), aldZ H (k := 17) (by omega) (by omega) (by omega)]
  simp only [bd]
  rw [g]
  simp only [bd]
  unfold eV
  have q14 : zI (v (14 : Int).toNat) = zI (v 14) := rfl
  have q15 : zI (v (15 : Int).toNat) = zI (v 15) := rfl
  have q17 : zI (v (17 : Int).toNat) = zI (v 17) := rfl
  rw [q14, q15, q17]
  cases hg : goV (ptV v k) i m less with
  | none =>
    dsimp only
    rw [if_pos rfl]
    exact back (ptV v k) (-1000000) (fun q h1 h2 h3 => by unfold ptV; exact vSet_0 _ _ _ _ h1 h2 h3)
  | some w =>
    have hw := goV_W W1 (by unfold ptV; rw [vSet_17]; omega) hg
    dsimp only
    rw [if_neg (by decide), s_M_node (v := w) (by rw [up_get, if_pos rfl]) hw.1, bd, up_up]
    exact back _ _ (fun q h1 h2 h3 => by rw [hw.2.2 q h1 h2 h3]; unfold ptV; exact vSet_0 _ _ _ _ h1 h2 h3)
