/-! ===== kind, hand, cell, boat ===== -/
theorem zz {c : Prop} [Decidable c] : ((if c then (1 : Int32) else 0) = zI 0) ↔ ¬ c := ite_01 c
section
variable {h : MH} {P : Nat → Nat → Int}
theorem m_isHand (M : Mr h P) (W : Wv (P 6)) {n : Int} (h1 : -2147483648 ≤ n) (h2 : n < 2147483648) : f_M_isHand (some 34) (zI n) h = some (if 0 ≤ n ∧ n < P 6 4 then 1 else 0) := s_M_isHand W M.1 (M.2 6 (by omega) (by omega)) h1 h2
theorem c_handAt (B : Bs h 26 (P 6)) (W : Wv (P 6)) {n : Int} (h1 : -2147483648 ≤ n) (h2 : n < 2147483648) : (¬ (0 ≤ n ∧ n < P 6 4) ∧ f_B_handAt (some 26) (zI n) h = some none) ∨ ((0 ≤ n ∧ n < P 6 4) ∧ ∃ p, f_B_handAt (some 26) (zI n) h = some (some p) ∧ 48 ≤ p ∧ h.1 p = hC (P 6 (5 + n.toNat)) n (P 6 (9 + n.toNat))) := by
  by_cases c : 0 ≤ n ∧ n < P 6 4
  · refine Or.inr ⟨c, ?_⟩
    obtain ⟨p, p1, p2, p3⟩ := s_handAt B W (i := n.toNat) (by omega)
    rw [Int.toNat_of_nonneg c.1] at p1 p3
    exact ⟨p, p1, p2, p3⟩
  · exact Or.inl ⟨c, s_handAt_no B W h1 h2 c⟩
end
theorem s_kind (i : Int32) : Okr (f_C_kind (some 3) i) (f_M_kind (some 34) i) := by
  intro h P X
  obtain ⟨k, k1, k2, rfl⟩ := i_ex i
  obtain ⟨g, e, c, X'⟩ := X.thr
  have M := X'.2.1
  have W := X.2.2.2.2.1.1
  obtain ⟨-, -, ⟨x1, x2, x3, x4, x5, x6, -⟩, -⟩ := X
  have hi : f_M_isHand (some 34) (zI k) g = some (if 0 ≤ k ∧ k < P 6 4 then 1 else 0) := m_isHand (P := th P) M W k1 k2
  have w4 := W.2.2.2.1
  have A : g.1 40 = aZ 42 (P 6) := M.2 6 (by omega) (by omega)
  refine ⟨zI (if 0 ≤ k ∧ k < P 6 4 then P 6 (5 + k.toNat) else -1000001), g, th P, ?_, ?_, X', Gr_eq c (by omega)⟩
  · unfold f_C_kind
    rw [cg4 x1, bd, b_on x6.1.1]
    rcases c_handAt x6.1 W k1 k2 with ⟨c1, c2⟩ | ⟨c1, p, p1, p2, p3⟩
    · rw [c2, bd, if_pos rfl, if_neg c1]; rfl
    · have w5 := W.2.2.2.2.1 k.toNat (by omega)
      rw [p1, bd, if_neg (by intro z; cases z), s_H_sort p3 w5.1 w5.2.1, if_pos c1]
      rfl
  · unfold f_M_kind
    rw [e, bd, mr_on M, hi, bd]
    by_cases c1 : 0 ≤ k ∧ k < P 6 4
    · rw [if_pos c1, if_neg (by decide), mg15 M, bd, l5, zI_add, aldZ A (by omega) (by omega) (by omega), bd, if_pos c1, show (5 + k).toNat = 5 + k.toNat by omega]
    · rw [if_neg c1, if_pos rfl, if_neg c1]; rfl
theorem s_hand (i j : Int32) : Okr (f_C_hand (some 3) i j) (f_M_hand (some 34) i j) := by
  intro h P X
  obtain ⟨k, k1, k2, rfl⟩ := i_ex i
  obtain ⟨m, m1, m2, rfl⟩ := i_ex j
  obtain ⟨g, e, c, X'⟩ := X.thr
  have M := X'.2.1
  have W := X.2.2.2.2.1.1
  obtain ⟨-, -, ⟨x1, x2, x3, x4, x5, x6, -⟩, -⟩ := X
  have hi : f_M_isHand (some 34) (zI k) g = some (if 0 ≤ k ∧ k < P 6 4 then 1 else 0) := m_isHand (P := th P) M W k1 k2
  have w4 := W.2.2.2.1
  have A : g.1 40 = aZ 42 (P 6) := M.2 6 (by omega) (by omega)
  have hw : f_C_within (zI m) (8 : Int32) = 0 ↔ ¬ (0 ≤ m ∧ m < 8) := s_within0 (b := 8) m1 m2 (by omega) (by omega)
  have hin : f_M_in (zI m) (0 : Int32) (7 : Int32) = if 0 ≤ m ∧ m ≤ 7 then 1 else 0 := s_M_in (a := 0) (b := 7) m1 m2 (by omega) (by omega) (by omega) (by omega)
  refine ⟨zI (if 0 ≤ k ∧ k < P 6 4 then (if 0 ≤ m ∧ m < 8 then sM (P 6 (5 + k.toNat)) (P 6 (9 + k.toNat)) m else -1000001) else -1000001), g, th P, ?_, ?_, X', Gr_eq c (by omega)⟩
  · unfold f_C_hand
    rw [cg4 x1, bd, b_on x6.1.1]
    simp only [hw]
    rcases c_handAt x6.1 W k1 k2 with ⟨c1, c2⟩ | ⟨c1, p, p1, p2, p3⟩
    · rw [c2, bd, if_pos rfl, if_neg c1]; rfl
    · have w5 := W.2.2.2.2.1 k.toNat (by omega)
      rw [p1, bd, if_neg (by intro z; cases z), if_pos c1]
      by_cases c2 : 0 ≤ m ∧ m < 8
      · rw [if_neg (fun z => z c2), s_H_min p3 w5.1 w5.2.1 w5.2.2.1 w5.2.2.2 c2.1 c2.2, if_pos c2]
        rfl
      · rw [if_pos c2, if_neg c2]; rfl
  · unfold f_M_hand
    rw [e, bd, mr_on M, hi, bd, hin]
    by_cases c1 : 0 ≤ k ∧ k < P 6 4
    · have w5 := W.2.2.2.2.1 k.toNat (by omega)
      rw [if_pos c1, if_neg (by decide), if_pos c1]
      by_cases c2 : 0 ≤ m ∧ m < 8
      · have hmk := s_M_makes (P 6 (5 + k.toNat)) m w5.1 w5.2.1 c2.1 c2.2
        have hmin := s_M_min A W (i := k.toNat) (by omega) c2.1 c2.2
        rw [Int.toNat_of_nonneg c1.1] at hmin
        rw [if_pos (show 0 ≤ m ∧ m ≤ 7 by omega), if_neg (by decide), mg15 M, bd, l5, zI_add, aldZ A (by omega) (by omega) (by omega), bd, show (5 + k).toNat = 5 + k.toNat by omega, hmk, if_pos c2]
        simp only [b2_0]
        cases hk : mk (P 6 (5 + k.toNat)) m with
        | false =>
          rw [if_pos rfl]
          unfold sM
          rw [hk]
          rfl
        | true =>
          rw [if_neg (by decide), bd, hmin, bd, sM_min k.toNat m hk]
      · rw [if_neg (show ¬ (0 ≤ m ∧ m ≤ 7) by omega), if_pos rfl, if_neg c2]; rfl
    · rw [if_neg c1, if_pos rfl, if_neg c1]; rfl
theorem s_cell (i j : Int32) : Okr (f_C_cell (some 3) i j) (f_M_cell (some 34) i j) := by
  intro h P X
  obtain ⟨k, k1, k2, rfl⟩ := i_ex i
  obtain ⟨w, w1, w2, rfl⟩ := i_ex j
  obtain ⟨g, e, c, X'⟩ := X.thr
  have M := X'.2.1
  have W := X.2.2.2.2.1.1
  have h01 := X.2.2.2.2.2.1
  obtain ⟨-, -, ⟨x1, x2, x3, x4, x5, x6, -⟩, -⟩ := X
  obtain ⟨g0, g1, g2, g3, g4, g5, g6, g7, g8, g9, g10⟩ := b_g x6.1.1
  have A : g.1 40 = aZ 42 (P 6) := M.2 6 (by omega) (by omega)
  have hc : f_C_within (zI k) (24 : Int32) = 0 ↔ ¬ (0 ≤ k ∧ k < 24) := s_within0 (b := 24) k1 k2 (by omega) (by omega)
  have hw : f_C_within (zI w) (2 : Int32) = 0 ↔ ¬ (0 ≤ w ∧ w < 2) := s_within0 (b := 2) w1 w2 (by omega) (by omega)
  have hin : f_M_in (zI k) (0 : Int32) (23 : Int32) = if 0 ≤ k ∧ k ≤ 23 then 1 else 0 := s_M_in (a := 0) (b := 23) k1 k2 (by omega) (by omega) (by omega) (by omega)
  have hin2 : f_M_in (zI w) (0 : Int32) (1 : Int32) = if 0 ≤ w ∧ w ≤ 1 then 1 else 0 := s_M_in (a := 0) (b := 1) w1 w2 (by omega) (by omega) (by omega) (by omega)
  have x0 : zI (P 6 0) = (0 : Int32) ↔ P 6 0 = 0 := zI_eq (b := 0) (by omega) (by omega) (by omega) (by omega)
  have xw : zI w = (0 : Int32) ↔ w = 0 := zI_eq (b := 0) (by omega) (by omega) (by omega) (by omega)
  refine ⟨if P 6 0 = 0 then -1000002 else if 0 ≤ k ∧ k < 24 ∧ 0 ≤ w ∧ w < 2 then (if w = 0 then zI (P 6 (18 + k.toNat)) else f_C_bit (zI (P 6 13)) (zI k)) else -1000001, g, th P, ?_, ?_, X', Gr_eq c (by omega)⟩
  · unfold f_C_cell
    rw [cf8 x1, bd]
    simp only [x0, hc, hw, xw, cg4 x1, g9, g7, bd]
    by_cases c0 : P 6 0 = 0
    · rw [if_pos c0, if_pos c0]
    · rw [if_neg c0, if_neg c0]
      by_cases c1 : 0 ≤ k ∧ k < 24
      · rw [if_neg (show ¬ ¬ (0 ≤ k ∧ k < 24) from fun z => z c1)]
        by_cases c2 : 0 ≤ w ∧ w < 2
        · rw [if_neg (show ¬ ¬ (0 ≤ w ∧ w < 2) from fun z => z c2), if_pos (show 0 ≤ k ∧ k < 24 ∧ 0 ≤ w ∧ w < 2 from ⟨c1.1, c1.2, c2.1, c2.2⟩)]
          by_cases c3 : w = 0
          · rw [if_pos c3, if_pos c3, s_at_in x6.1.2.1 c1.1 (by omega) (by omega)]
            rfl
          · rw [if_neg c3, if_neg c3]
        · rw [if_pos (show ¬ (0 ≤ w ∧ w < 2) from c2), if_neg (show ¬ (0 ≤ k ∧ k < 24 ∧ 0 ≤ w ∧ w < 2) by omega)]
      · rw [if_pos (show ¬ (0 ≤ k ∧ k < 24) from c1), if_neg (show ¬ (0 ≤ k ∧ k < 24 ∧ 0 ≤ w ∧ w < 2) by omega)]
  · have e0 := aldL A 0 0 rfl (by decide) (by decide)
    have e13 := aldL A 13 13 rfl (by decide) (by decide)
    unfold f_M_cell
    rw [e, bd]
    simp only [mg15 M, bd, e0, x0, hin, hin2, xw, e13, ite_01]
    by_cases c0 : P 6 0 = 0
    · rw [if_pos c0, if_pos c0]
    · rw [if_neg c0, if_neg c0]
      by_cases c1 : 0 ≤ k ∧ k < 24
      · rw [if_neg (show ¬ ¬ (0 ≤ k ∧ k ≤ 23) by omega)]
        by_cases c2 : 0 ≤ w ∧ w < 2
        · rw [if_neg (show ¬ ¬ (0 ≤ w ∧ w ≤ 1) by omega), if_pos (show 0 ≤ k ∧ k < 24 ∧ 0 ≤ w ∧ w < 2 from ⟨c1.1, c1.2, c2.1, c2.2⟩)]
          by_cases c3 : w = 0
          · rw [if_pos c3, if_pos c3, l18, zI_add, aldZ A (by omega) (by omega) (by omega), bd, show (18 + k).toNat = 18 + k.toNat by omega]
          · rw [if_neg c3, if_neg c3]
            rfl
        · rw [if_pos (show ¬ (0 ≤ w ∧ w ≤ 1) by omega), if_neg (show ¬ (0 ≤ k ∧ k < 24 ∧ 0 ≤ w ∧ w < 2) by omega)]
      · rw [if_pos (show ¬ (0 ≤ k ∧ k ≤ 23) by omega), if_neg (show ¬ (0 ≤ k ∧ k < 24 ∧ 0 ≤ w ∧ w < 2) by omega)]
/-! the boat's cells -/
def sB (c : Int) : Int32 := if 0 ≤ c ∧ c < 24 then (1 : Int32) <<< (zI c &&& 31) else 0
def lie (c t : Int) : Int32 := (sB c ||| sB (bes c t)) ||| sB (bes c (t + 4))
theorem s_setOf {c : Int} (h1 : -1 ≤ c) (h2 : c < 24) : f_B_setOf (zI c) = sB c := by
  unfold f_B_setOf sB
  have hw : f_C_within (zI c) (24 : Int32) = 0 ↔ ¬ (0 ≤ c ∧ c < 24) := s_within0 (b := 24) (by omega) (by omega) (by omega) (by omega)
  simp only [hw]
  by_cases c1 : 0 ≤ c ∧ c < 24
  · rw [if_neg (fun z => z c1), if_pos c1]
  · rw [if_pos c1, if_neg c1]
theorem s_lies {h : MH} (E : Es h) {a : Nat} {v : Nat → Int} (W : Wv v) (B : h.1 a = bO v a) : f_B_lies (some a) h = some (lie (v 14) (v 15)) := by
  obtain ⟨g0, g1, g2, g3, g4, g5, g6, g7, g8, g9, g10⟩ := b_g B
  have w14 := W.2.2.2.2.2.2.1
  have w15 := W.2.2.2.2.2.2.2.1
  have r1 := bes_r (c := v 14) (d := v 15)
  have r2 := bes_r (c := v 14) (d := v 15 + 4)
  unfold f_B_lies lie
  simp only [g3, g4, bd]
  rw [l4, zI_add, s_beside E (by omega) (by omega) (by omega) (by omega), bd, s_beside E (by omega) (by omega) (by omega) (by omega), bd, s_setOf (by omega) (by omega), s_setOf (by omega) (by omega), s_setOf (by omega) (by omega)]
def rB (c t k : Int) : Int32 := if onB (c % 6 + k * gx t) (c / 6 + k * gy t) = true then (1 : Int32) <<< (zI (6 * (c / 6 + k * gy t) + (c % 6 + k * gx t)) &&& 31) else 0
theorem rB_lie : ∀ c t : Nat, c < 24 → t < 8 → (((0 : Int32) ||| rB c t (-1)) ||| rB c t 0) ||| rB c t 1 = lie c t := by
  have : ∀ c : Nat, c < 24 → ∀ t : Nat, t < 8 → (((0 : Int32) ||| rB c t (-1)) ||| rB c t 0) ||| rB c t 1 = lie c t := by decide +kernel
  exact fun c t h1 h2 => this c h1 t h2
theorem m_boatCells {F : Nat} (hF : 100 ≤ F) {g : MH} {P : Nat → Nat → Int} (M : Mr g P) (W : Wv (P 6)) : f_M_boatCells F (some 34) g = some (lie (P 6 14) (P 6 15)) := by
  have w14 := W.2.2.2.2.2.2.1
  have w15 := W.2.2.2.2.2.2.2.1
  have A : g.1 40 = aZ 42 (P 6) := M.2 6 (by omega) (by omega)
  have e14 := aldL A 14 14 rfl (by decide) (by decide)
  have e15 := aldL A 15 15 rfl (by decide) (by decide)
  have g1 := gx_le (P 6 15)
  have g2 := gy_le (P 6 15)
  have step : ∀ (fu : Nat) (s : Int32) (k : Int), -1 ≤ k → k ≤ 1 → b_M_boatCells_4 F g (fu + 1) (some 34) s (zI k) = b_M_boatCells_4 F g fu (some 34) (s ||| rB (P 6 14) (P 6 15) k) (zI (k + 1)) := by
    intro fu s k h1 h2
    have kx : -1 ≤ k * gx (P 6 15) ∧ k * gx (P 6 15) ≤ 1 := by
      rcases (show k = -1 ∨ k = 0 ∨ k = 1 by omega) with rfl | rfl | rfl <;> omega
    have ky : -1 ≤ k * gy (P 6 15) ∧ k * gy (P 6 15) ≤ 1 := by
      rcases (show k = -1 ∨ k = 0 ∨ k = 1 by omega) with rfl | rfl | rfl <;> omega
    conv => lhs; unfold b_M_boatCells_4 b_M_boatCells_81
    simp only [mg15 M, e14, e15, bd]
    rw [s_M_dx _ w15.1 (by omega), s_M_dy _ w15.1 (by omega), show (6 : Int32) = zI 6 from rfl, show (1 : Int32) = zI 1 from rfl, show (2 : Int32) = zI 2 from rfl, zI_rem (by omega) (by omega) (by omega) (by omega), zI_div (by omega) (by omega) (by omega) (by omega), zI_mul, zI_mul, zI_add, zI_add, zI_add, zI_mul, zI_add, s_M_isCell (by omega) (by omega) (by omega) (by omega)]
    simp (disch := omega) only [zI_le, b2_0]
    rw [if_neg (by omega)]
    unfold rB
    cases onB (P 6 14 % 6 + k * gx (P 6 15)) (P 6 14 / 6 + k * gy (P 6 15)) <;> rfl
  obtain ⟨fu, rfl⟩ : ∃ q, F = q + 4 := ⟨F - 4, by omega⟩
  have hr := rB_lie (P 6 14).toNat (P 6 15).toNat (by omega) (by omega)
  rw [Int.toNat_of_nonneg w14.1, Int.toNat_of_nonneg w15.1] at hr
  unfold f_M_boatCells
  rw [lm1, step _ _ _ (by omega) (by omega), show (-1 : Int) + 1 = 0 from rfl, step _ _ _ (by omega) (by omega), show (0 : Int) + 1 = 1 from rfl, step _ _ _ (by omega) (by omega), hr]
  unfold b_M_boatCells_4
  rw [l2]
  simp (disch := omega) only [zI_le]
  rw [if_pos (by omega)]
theorem s_fitsNow {h : MH} (E : Es h) {a : Nat} {v : Nat → Int} (W : Wv v) (B : h.1 a = bO v a) (B1 : h.1 (a + 1) = aZ 24 (fun j => v (18 + j))) : f_B_fitsNow (some a) h = some (b2 (vFits v (v 14 % 6) (v 14 / 6) (v 15) (vD v 0))) := by
  obtain ⟨g0, g1, g2, g3, g4, g5, g6, g7, g8, g9, g10⟩ := b_g B
  have w14 := W.2.2.2.2.2.2.1
  have w15 := W.2.2.2.2.2.2.2.1
  have hd := vD_r W (less := 0) (by omega)
  have hs := shal_r W (c := v 14) (t := v 15) (by omega)
  have hf := shal_fits (v := v) (d := vD v 0) w14.1 (show v 14 < 24 by omega) w15.1 (show v 15 < 8 by omega) hd.1
  unfold f_B_fitsNow
  simp only [g3, g4, bd, b_on B]
  rw [s_B_shallowest E W B B1 (by omega) (by omega) (by omega) (by omega), bd, s_B_sinks B W, bd]
  simp (disch := omega) only [zI_lt]
  cases hv : vFits v (v 14 % 6) (v 14 / 6) (v 15) (vD v 0) with
  | false =>
    rw [if_pos ?_]
    · rfl
    · by_cases z : vD v 0 ≤ shal v (v 14) (v 15)
      · rw [hf.mp z] at hv; cases hv
      · omega
  | true =>
    have := hf.mpr hv
    rw [if_neg (by omega)]
    rfl
theorem m_fitsNow {g : MH} {P : Nat → Nat → Int} (M : Mr g P) (W : Wv (P 6)) : f_M_fitsNow (some 34) g = some (b2 (vFits (P 6) (P 6 14 % 6) (P 6 14 / 6) (P 6 15) (vD (P 6) 0))) := s_M_fitsNow W M.1 (M.2 6 (by omega) (by omega))
theorem s_boat {F : Nat} (hF : 100 ≤ F) (i : Int32) : Okr (f_C_boat (some 3) i) (f_M_boat F (some 34) i) := by
  intro h P X
  obtain ⟨k, k1, k2, rfl⟩ := i_ex i
  obtain ⟨g, e, c, X'⟩ := X.thr
  have M := X'.2.1
  have W := X.2.2.2.2.1.1
  have h01 := X.2.2.2.2.2.1
  have E := X.1
  obtain ⟨-, -, ⟨x1, x2, x3, x4, x5, x6, -⟩, -⟩ := X
  obtain ⟨g0, g1, g2, g3, g4, g5, g6, g7, g8, g9, g10⟩ := b_g x6.1.1
  have A : g.1 40 = aZ 42 (P 6) := M.2 6 (by omega) (by omega)
  have x0 : zI (P 6 0) = (0 : Int32) ↔ P 6 0 = 0 := zI_eq (b := 0) (by omega) (by omega) (by omega) (by omega)
  obtain ⟨fb, hfb⟩ : ∃ fb, fb = vFits (P 6) (P 6 14 % 6) (P 6 14 / 6) (P 6 15) (vD (P 6) 0) := ⟨_, rfl⟩
  have hf1 : f_B_fitsNow (some 26) h = some (b2 fb) := by rw [hfb]; exact s_fitsNow E W x6.1.1 x6.1.2.1
  have hf2 : f_M_fitsNow (some 34) g = some (b2 fb) := by rw [hfb]; exact m_fitsNow (P := th P) M W
  have hl1 : f_B_lies (some 26) h = some (lie (P 6 14) (P 6 15)) := s_lies E W x6.1.1
  have hl2 : f_M_boatCells F (some 34) g = some (lie (P 6 14) (P 6 15)) := m_boatCells (P := th P) hF M W
  have hs1 := s_B_sinks x6.1.1 W
  have hs2 : f_M_draughtOf (some 40) (0 : Int32) g = some (zI (vD (P 6) 0)) := s_M_draught (less := 0) W A (by omega) (by omega)
  have b2i : ∀ x y : Option (Int32 × MH), (if b2 fb = 0 then x else y) = if fb = false then x else y := fun x y => by simp only [b2_0]
  refine ⟨if P 6 0 = 0 then -1000002 else if k = 0 then zI (P 6 14) else if k = 1 then zI (P 6 15) else if k = 2 then zI (vD (P 6) 0) else if k = 3 then zI (P 6 17) else if k = 4 then b2 fb else if k = 5 then lie (P 6 14) (P 6 15) else -1000001, g, th P, ?_, ?_, X', Gr_eq c (by omega)⟩
  · unfold f_C_boat
    rw [cf8 x1, bd]
    simp only [x0, cg4 x1, g3, g4, g6, bd, b_on x6.1.1, hs1, hf1, hl1, b2_0]
    rw [show (1 : Int32) = zI 1 from rfl, show (0 : Int32) = zI 0 from rfl, show (2 : Int32) = zI 2 from rfl, show (3 : Int32) = zI 3 from rfl, show (4 : Int32) = zI 4 from rfl, show (5 : Int32) = zI 5 from rfl]
    simp (disch := omega) only [zI_eq]
    by_cases c0 : P 6 0 = 0
    · rw [if_pos c0, if_pos c0]
    · rw [if_neg c0, if_neg c0]
      by_cases cc : 0 ≤ k ∧ k ≤ 5
      · rcases (show k = 0 ∨ k = 1 ∨ k = 2 ∨ k = 3 ∨ k = 4 ∨ k = 5 by omega) with rfl | rfl | rfl | rfl | rfl | rfl
        · rfl
        · rfl
        · rfl
        · rfl
        · cases fb <;> rfl
        · rfl
      · repeat rw [if_neg (by omega)]
  · have e0 := aldL A 0 0 rfl (by decide) (by decide)
    have e17 := aldL A 17 17 rfl (by decide) (by decide)
    have hin : f_M_in (zI k) (0 : Int32) (5 : Int32) = if 0 ≤ k ∧ k ≤ 5 then 1 else 0 := s_M_in (a := 0) (b := 5) k1 k2 (by omega) (by omega) (by omega) (by omega)
    unfold f_M_boat
    rw [e, bd]
    simp only [mg15 M, bd, e0, x0, hin, e17, ite_01, mr_on M, hf2, hl2, hs2, b2_0]
    rw [show (2 : Int32) = zI 2 from rfl, show (3 : Int32) = zI 3 from rfl, show (4 : Int32) = zI 4 from rfl, show (14 : Int32) = zI 14 from rfl, zI_add]
    simp (disch := omega) only [zI_eq, zI_le]
    by_cases c0 : P 6 0 = 0
    · rw [if_pos c0, if_pos c0]
    · rw [if_neg c0, if_neg c0]
      by_cases cc : 0 ≤ k ∧ k ≤ 5
      · rw [if_neg (fun z => z cc)]
        have a14 := aldZ A (k := 14) (by omega) (by omega) (by omega)
        have a15 := aldZ A (k := 15) (by omega) (by omega) (by omega)
        rcases (show k = 0 ∨ k = 1 ∨ k = 2 ∨ k = 3 ∨ k = 4 ∨ k = 5 by omega) with rfl | rfl | rfl | rfl | rfl | rfl
        · rw [if_neg (by decide), show (14 : Int) + 0 = 14 from rfl, a14]
          rfl
        · rw [if_neg (by decide), show (14 : Int) + 1 = 15 from rfl, a15]
          rfl
        · rfl
        · rfl
        · cases fb <;> rfl
        · rfl
      · rw [if_pos cc]
        repeat rw [if_neg (by omega)]
