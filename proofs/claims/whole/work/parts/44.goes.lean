/-! ===== the reference's moves ===== -/
def tT (t m : Int) : Int := if 5 < m then t else (t + (if m % 2 = 0 then 1 else 7)) % 8
def mX (x t m : Int) : Int := if m = 2 ∨ m = 3 then x + (gx (tT t m) - gx t) else if m = 4 ∨ m = 5 then x + (gx t - gx (tT t m)) else if m = 6 then x + gx t else if m = 7 then x + -gx t else x
def mY (y t m : Int) : Int := if m = 2 ∨ m = 3 then y + (gy (tT t m) - gy t) else if m = 4 ∨ m = 5 then y + (gy t - gy (tT t m)) else if m = 6 then y + gy t else if m = 7 then y + -gy t else y
theorem tT_r {t m : Int} (h1 : 0 ≤ t) (h2 : t < 8) : 0 ≤ tT t m ∧ tT t m < 8 := by unfold tT; (repeat' split) <;> omega
/-- the draught that hand i needs -/
def rLift (s : Int) (d : Int32) : Int32 := if s = 5 ∧ 0 < d then d - 1 else d
/-- whether a boat that has come to (x, y) of turn t by its md-th move is blown on -/
def rBlow (r : Nat → Int32) (md w x y t : Int) (d : Int32) : Bool := decide (md % 3 = 0 ∧ 0 < w) && (r 16 == 0 && rFits r (x + gx (w - 1)) (y + gy (w - 1)) t d)
def rMid (r : Nat → Int32) (md w x y t : Int) (d : Int32) : Int := if rBlow r md w x y t d then 6 * (y + gy (w - 1)) + (x + gx (w - 1)) else 6 * y + x
def rSet (r : Nat → Int32) (md mid t : Int) : Nat → Int32 := upd (upd (upd r 17 (zI md)) 14 (zI mid)) 15 (zI t)
theorem rFree_u (r : Nat → Int32) (k : Nat) (v : Int32) (hk : k = 17 ∨ k = 14 ∨ k = 15 ∨ k = 16) (x y : Int) (d : Int32) : rFree (upd r k v) x y d = rFree r x y d := by
  unfold rFree
  have e1 : upd r k v 13 = r 13 := by unfold upd; rw [if_neg (by omega)]
  have e2 : upd r k v (18 + (6 * y + x).toNat) = r (18 + (6 * y + x).toNat) := by unfold upd; rw [if_neg (by omega)]
  rw [e1, e2]
theorem rFits_u (r : Nat → Int32) (k : Nat) (v : Int32) (hk : k = 17 ∨ k = 14 ∨ k = 15 ∨ k = 16) (x y t : Int) (d : Int32) : rFits (upd r k v) x y t d = rFits r x y t d := by
  unfold rFits
  rw [rFree_u r k v hk, rFree_u r k v hk, rFree_u r k v hk]
theorem p199 {h : MH} {a : Nat} {r : Nat → Int32} (H : h.1 a = aI 42 r) (ha : 3 ≤ a) {i : Nat} (hi : i < 4) {s w md x y t m : Int} {less : Int32} (hs : r (5 + i) = zI s) (hw : r 1 = zI w) (hmd : r 17 = zI md)
    (hs1 : 1 ≤ s) (hs2 : s ≤ 5) (hw1 : 0 ≤ w) (hw2 : w ≤ 8) (hd1 : 0 ≤ md) (hd2 : md ≤ 100000) (hm1 : 0 ≤ m) (hm2 : m < 8) (ht1 : 0 ≤ t) (ht2 : t < 8) (hx1 : -50 ≤ x) (hx2 : x ≤ 50) (hy1 : -50 ≤ y) (hy2 : y ≤ 50) :
    b_M_goes_199 (some a) (zI i) (zI m) less (zI x) (zI y) (zI t) h = some (if mk s m && rFits r x y t (rLift s (rDraught r less)) then (1, mj_up h a (aI 42 (rSet r (md + 1) (rMid r (md + 1) w x y t (rDraught r less)) t))) else (0, h)) := by
  have key : ∀ d0 : Int32, d0 = rLift s (rDraught r less) → b_M_goes_229 (some a) (zI i) (zI m) (zI x) (zI y) (zI t) (rDraught r less) d0 h = some (if mk s m && rFits r x y t (rLift s (rDraught r less)) then (1, mj_up h a (aI 42 (rSet r (md + 1) (rMid r (md + 1) w x y t (rDraught r less)) t))) else (0, h)) := by
    intro d0 hd0
    rw [← hd0]
    unfold b_M_goes_229
    rw [show (5 : Int32) = zI 5 from rfl, zI_add, ald_n H (zI (5 + (i : Int))) (5 + i) (congrArg zI (by omega)) (by omega) (by decide)]
    simp only [Option.bind_some]
    rw [hs, s_M_makes s m hs1 hs2 hm1 hm2, s_M_fits H (by omega) (by omega) (by omega) (by omega) ht1 ht2]
    cases hmk : mk s m with
    | false => rfl
    | true =>
      rw [if_neg (by decide)]
      simp only [Option.bind_some]
      cases hf : rFits r x y t d0 with
      | false => rfl
      | true =>
        rw [if_neg (by decide), ald_n H 17 17 (by decide) (by decide) (by decide)]
        simp only [Option.bind_some]
        rw [ast_n H ha 17 17 _ (by decide) (by decide) (by decide), hmd, show (1 : Int32) = zI 1 from rfl, zI_add]
        simp only [Option.bind_some]
        have H9 : (mj_up h a (aI 42 (upd r 17 (zI (md + 1))))).1 a = aI 42 (upd r 17 (zI (md + 1))) := by rw [up_get, if_pos rfl]
        rw [ald_n H9 (zI 1) 1 rfl (by decide) (by decide), ald_n H9 17 17 (by decide) (by decide) (by decide), ald_n H9 16 16 (by decide) (by decide) (by decide)]
        simp only [Option.bind_some]
        have u1 : upd r 17 (zI (md + 1)) 1 = zI w := by unfold upd; rw [if_neg (by decide), hw]
        have u2 : upd r 17 (zI (md + 1)) 17 = zI (md + 1) := by unfold upd; rw [if_pos rfl]
        have u3 : upd r 17 (zI (md + 1)) 16 = r 16 := by unfold upd; rw [if_neg (by decide)]
        rw [u1, u2, u3, show (3 : Int32) = zI 3 from rfl, zI_rem (by omega) (by omega) (by omega) (by omega)]
        have put : ∀ x' y' : Int, b_M_goes_344 (some a) (zI x') (zI y') (zI t) (mj_up h a (aI 42 (upd r 17 (zI (md + 1))))) = some (1, mj_up h a (aI 42 (rSet r (md + 1) (6 * y' + x') t))) := by
          intro x' y'
          unfold b_M_goes_344 rSet
          rw [ast_n H9 ha 14 14 _ (by decide) (by decide) (by decide), show (6 : Int32) = zI 6 from rfl, zI_mul, zI_add]
          simp only [Option.bind_some]
          rw [up_up, ast_n (f := upd (upd r 17 (zI (md + 1))) 14 (zI (6 * y' + x'))) (n := 42) (by rw [up_get, if_pos rfl]) ha 15 15 _ (by decide) (by decide) (by decide), up_up]
          rfl
        have c3 : zI ((md + 1) % 3) = 0 ↔ (md + 1) % 3 = 0 := zI_eq (b := 0) (by omega) (by omega) (by omega) (by omega)
        have cw : zI w ≤ 0 ↔ w ≤ 0 := zI_le (b := 0) (by omega) (by omega) (by omega) (by omega)
        simp only [c3, cw]
        unfold rMid rBlow
        by_cases d1 : (md + 1) % 3 = 0
        · rw [if_pos d1]
          by_cases d2 : w ≤ 0
          · rw [if_pos d2, put, decide_eq_false (show ¬ ((md + 1) % 3 = 0 ∧ 0 < w) by omega)]
            rfl
          · rw [if_neg d2, decide_eq_true (show (md + 1) % 3 = 0 ∧ 0 < w by omega)]
            by_cases d4 : r 16 = 0
            · have g1 := gx_le (w - 1)
              have g2 := gy_le (w - 1)
              rw [if_pos d4, zI_sub, s_M_dx (w - 1) (by omega) (by omega), s_M_dy (w - 1) (by omega) (by omega), zI_add, zI_add, s_M_fits H9 (by omega) (by omega) (by omega) (by omega) ht1 ht2, rFits_u r 17 _ (Or.inl rfl)]
              simp only [Option.bind_some, d4]
              cases rFits r (x + gx (w - 1)) (y + gy (w - 1)) t (rDraught r less) with
              | false => rw [if_pos (by decide), put]; rfl
              | true => rw [if_neg (by decide), put]; rfl
            · have d4' : (r 16 == 0) = false := by simpa using d4
              rw [if_neg d4, put, d4']
              rfl
        · rw [if_neg d1, put, decide_eq_false (show ¬ ((md + 1) % 3 = 0 ∧ 0 < w) by omega)]
          rfl
  unfold b_M_goes_199 b_M_goes_227
  rw [s_M_draughtOf H, show (5 : Int32) = zI 5 from rfl, zI_add, ald_n H (zI (5 + (i : Int))) (5 + i) (congrArg zI (by omega)) (by omega) (by decide), hs]
  simp only [Option.bind_some]
  have e5 : zI s = zI 5 ↔ s = 5 := zI_eq (by omega) (by omega) (by omega) (by omega)
  simp only [e5]
  by_cases c5 : s = 5
  · rw [if_pos c5]
    by_cases c0 : rDraught r less ≤ 0
    · rw [if_pos c0]
      exact key _ (by unfold rLift; rw [if_neg (fun z => absurd z.2 (Int32.not_lt.mpr c0))])
    · rw [if_neg c0]
      exact key _ (by unfold rLift; rw [if_pos ⟨c5, Int32.not_le.mp c0⟩])
  · rw [if_neg c5]
    exact key _ (by unfold rLift; rw [if_neg (fun z => c5 z.1)])
