/-! ===== the reference's geometry ===== -/
def gx (t : Int) : Int := if t = 0 ∨ t = 1 ∨ t = 7 then 1 else if t = 2 ∨ t = 6 then 0 else -1
def gy (t : Int) : Int := if t = 0 ∨ t = 4 then 0 else if t < 4 then -1 else 1
theorem gx_le (t : Int) : -1 ≤ gx t ∧ gx t ≤ 1 := by unfold gx; (repeat' split) <;> omega
theorem gy_le (t : Int) : -1 ≤ gy t ∧ gy t ≤ 1 := by unfold gy; (repeat' split) <;> omega
theorem mj_lt8 {P : Int → Prop} (h0 : P 0) (h1 : P 1) (h2 : P 2) (h3 : P 3) (h4 : P 4) (h5 : P 5) (h6 : P 6) (h7 : P 7) : ∀ t, 0 ≤ t → t < 8 → P t := by
  intro t h1 h2
  rcases (show t = 0 ∨ t = 1 ∨ t = 2 ∨ t = 3 ∨ t = 4 ∨ t = 5 ∨ t = 6 ∨ t = 7 by omega) with rfl | rfl | rfl | rfl | rfl | rfl | rfl | rfl <;> assumption
theorem s_M_dx : ∀ t, 0 ≤ t → t < 8 → f_M_dx (zI t) = zI (gx t) := mj_lt8 (by decide) (by decide) (by decide) (by decide) (by decide) (by decide) (by decide) (by decide)
theorem s_M_dy : ∀ t, 0 ≤ t → t < 8 → f_M_dy (zI t) = zI (gy t) := mj_lt8 (by decide) (by decide) (by decide) (by decide) (by decide) (by decide) (by decide) (by decide)
theorem zI_n (n : Nat) : (OfNat.ofNat n : Int32) = zI (OfNat.ofNat n : Int) := zI_lit n
theorem s_M_in {v a b : Int} (h1 : -2147483648 ≤ v) (h2 : v < 2147483648) (h3 : -2147483648 ≤ a) (h4 : a < 2147483648) (h5 : -2147483648 ≤ b) (h6 : b < 2147483648) : f_M_in (zI v) (zI a) (zI b) = if a ≤ v ∧ v ≤ b then 1 else 0 := by
  unfold f_M_in
  simp only [zI_lt h1 h2 h3 h4, zI_lt h5 h6 h1 h2]
  by_cases c1 : v < a
  · rw [if_pos c1, if_neg (by omega)]
  · rw [if_neg c1]
    by_cases c2 : b < v
    · rw [if_pos c2, if_neg (by omega)]
    · rw [if_neg c2, if_pos (by omega)]
def b2 (b : Bool) : Int32 := if b then 1 else 0
theorem b2_0 (b : Bool) : b2 b = 0 ↔ b = false := by cases b <;> decide
theorem b2_01 (b : Bool) : b2 b &&& 1 = b2 b := by cases b <;> decide
def onB (x y : Int) : Bool := decide (0 ≤ x ∧ x ≤ 5) && decide (0 ≤ y ∧ y ≤ 3)
theorem onB_iff {x y : Int} : onB x y = true ↔ 0 ≤ x ∧ x ≤ 5 ∧ 0 ≤ y ∧ y ≤ 3 := by
  unfold onB
  rw [Bool.and_eq_true, decide_eq_true_eq, decide_eq_true_eq]
  omega
theorem s_M_inb {v a b : Int} (h1 : -2147483648 ≤ v) (h2 : v < 2147483648) (h3 : -2147483648 ≤ a) (h4 : a < 2147483648) (h5 : -2147483648 ≤ b) (h6 : b < 2147483648) : f_M_in (zI v) (zI a) (zI b) = b2 (decide (a ≤ v ∧ v ≤ b)) := by
  rw [s_M_in h1 h2 h3 h4 h5 h6]
  by_cases c : a ≤ v ∧ v ≤ b
  · rw [if_pos c, decide_eq_true c]; rfl
  · rw [if_neg c, decide_eq_false c]; rfl
theorem s_M_isCell {x y : Int} (h1 : -1000 ≤ x) (h2 : x ≤ 1000) (h3 : -1000 ≤ y) (h4 : y ≤ 1000) : f_M_isCell (zI x) (zI y) = b2 (onB x y) := by
  unfold f_M_isCell onB
  have e1 : f_M_in (zI x) 0 5 = b2 (decide (0 ≤ x ∧ x ≤ 5)) := s_M_inb (a := 0) (b := 5) (by omega) (by omega) (by omega) (by omega) (by omega) (by omega)
  have e2 : f_M_in (zI y) 0 3 = b2 (decide (0 ≤ y ∧ y ≤ 3)) := s_M_inb (a := 0) (b := 3) (by omega) (by omega) (by omega) (by omega) (by omega) (by omega)
  rw [e1, e2]
  cases decide (0 ≤ x ∧ x ≤ 5) <;> cases decide (0 ≤ y ∧ y ≤ 3) <;> rfl
/-- whether cell (x, y) is there, free, and d deep -/
def mrd (m : Int32) (k : Int) : Bool := (m >>> (zI k &&& 31)) &&& 1 == 0
def rFree (r : Nat → Int32) (x y : Int) (d : Int32) : Bool := onB x y && (mrd (r 13) (6 * y + x) && !decide (r (18 + (6 * y + x).toNat) < d))
def rFits (r : Nat → Int32) (x y t : Int) (d : Int32) : Bool := rFree r x y d && (rFree r (x + gx t) (y + gy t) d && rFree r (x - gx t) (y - gy t) d)
theorem s_M_isFree {h : MH} {a : Nat} {r : Nat → Int32} (H : h.1 a = aI 42 r) {x y : Int} (h1 : -1000 ≤ x) (h2 : x ≤ 1000) (h3 : -1000 ≤ y) (h4 : y ≤ 1000) (d : Int32) : f_M_isFree (some a) (zI x) (zI y) d h = some (b2 (rFree r x y d)) := by
  unfold f_M_isFree rFree
  rw [s_M_isCell h1 h2 h3 h4, show (6 : Int32) = zI 6 from rfl, show (18 : Int32) = zI 18 from rfl, zI_mul, zI_add, zI_add, zI_add]
  cases hb : onB x y with
  | false => rfl
  | true =>
    have hr := onB_iff.mp hb
    rw [if_neg (by decide), ald_n H 13 13 (by decide) (by decide) (by decide), ald_z H (by omega) (by omega) (by decide)]
    simp only [Option.bind_some, mrd, Bool.true_and]
    have e : (18 + 6 * y + x).toNat = 18 + (6 * y + x).toNat := by omega
    rw [e]
    by_cases c1 : (r 13 >>> (zI (6 * y + x) &&& 31)) &&& 1 = 0
    · rw [if_pos c1, c1]
      by_cases c2 : r (18 + (6 * y + x).toNat) < d
      · rw [if_pos c2]; simp only [c2]; rfl
      · rw [if_neg c2]; simp only [c2]; rfl
    · rw [if_neg c1]
      have : ((r 13 >>> (zI (6 * y + x) &&& 31)) &&& 1 == 0) = false := by simpa using c1
      rw [this]; rfl
theorem s_M_fits {h : MH} {a : Nat} {r : Nat → Int32} (H : h.1 a = aI 42 r) {x y t : Int} (h1 : -900 ≤ x) (h2 : x ≤ 900) (h3 : -900 ≤ y) (h4 : y ≤ 900) (h5 : 0 ≤ t) (h6 : t < 8) (d : Int32) : f_M_fits (some a) (zI x) (zI y) (zI t) d h = some (b2 (rFits r x y t d)) := by
  have g1 := gx_le t
  have g2 := gy_le t
  unfold f_M_fits rFits
  rw [s_M_dx t h5 h6, s_M_dy t h5 h6, zI_add, zI_add, zI_sub, zI_sub, s_M_isFree H (by omega) (by omega) (by omega) (by omega), s_M_isFree H (by omega) (by omega) (by omega) (by omega), s_M_isFree H (by omega) (by omega) (by omega) (by omega)]
  simp only [Option.bind_some]
  cases rFree r x y d <;> cases rFree r (x + gx t) (y + gy t) d <;> cases rFree r (x - gx t) (y - gy t) d <;> rfl
/-- which sort makes which move -/
def mk (s m : Int) : Bool := (s == 1 && decide (m < 2)) || ((s == 2 && decide (m < 4)) || ((s == 3 && (decide (m < 2) || (m == 4 || m == 5))) || decide (3 < s ∧ 5 < m)))
theorem mj_5x8 {P : Int → Int → Prop} (h : ∀ s : Nat, s < 5 → ∀ m : Nat, m < 8 → P ((s : Int) + 1) (m : Int)) : ∀ s m, 1 ≤ s → s ≤ 5 → 0 ≤ m → m < 8 → P s m := by
  intro s m h1 h2 h3 h4
  have := h (s - 1).toNat (by omega) m.toNat (by omega)
  rw [show (((s - 1).toNat : Int) + 1) = s by omega, show ((m.toNat : Int)) = m by omega] at this
  exact this
theorem s_M_makes : ∀ s m, 1 ≤ s → s ≤ 5 → 0 ≤ m → m < 8 → f_M_makes (zI s) (zI m) = b2 (mk s m) := mj_5x8 (by decide +kernel)
/-- MINUTES of hand i for move m -/
def rMin (r : Nat → Int32) (i : Nat) (m : Int) : Int32 := if m = 4 ∨ m = 5 then (if 1 ≤ r (9 + i) / 2 then r (9 + i) / 2 else 1) else r (9 + i)
theorem s_M_minutesOf {h : MH} {a : Nat} {r : Nat → Int32} (H : h.1 a = aI 42 r) {i : Nat} (hi : i < 4) {m : Int} (h1 : 0 ≤ m) (h2 : m < 8) : f_M_minutesOf (some a) (zI i) (zI m) h = some (rMin r i m) := by
  unfold f_M_minutesOf rMin b_M_minutesOf_21
  rw [show (9 : Int32) = zI 9 from rfl, zI_add, ald_n H (zI (9 + (i : Int))) (9 + i) (congrArg zI (by omega)) (by omega) (by decide)]
  have e4 : zI m = 4 ↔ m = 4 := zI_eq (b := 4) (by omega) (by omega) (by omega) (by omega)
  have e5 : zI m = 5 ↔ m = 5 := zI_eq (b := 5) (by omega) (by omega) (by omega) (by omega)
  simp only [Option.bind_some, e4, e5]
  by_cases c1 : 1 ≤ r (9 + i) / 2 <;> by_cases c2 : m = 4 <;> by_cases c3 : m = 5 <;> simp [c1, c2, c3]
