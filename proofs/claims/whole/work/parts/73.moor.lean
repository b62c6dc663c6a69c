/-! ===== moor, silt, undo ===== -/
theorem onN_add {m c : Nat} (hc : c < 24) (hb : btN m c = 0) (hm : m + 2 ^ c < 16777216) : onN (m + 2 ^ c) = onN m + 1 := by
  have := onR_add m c hb 24
  rw [if_pos hc, onR_24 hm, onR_24 (Nat.lt_of_le_of_lt (Nat.le_add_right m (2 ^ c)) hm)] at this
  exact this
set_option maxHeartbeats 4000000 in
theorem s_moor {F : Nat} (hF : 10000 ≤ F) (i j : Int32) : Ok (f_C_moor (some 3) i j) (f_M_moor F (some 34) i j) := by
  intro h P X
  obtain ⟨k, k1, k2, rfl⟩ := i_ex i
  obtain ⟨w, w1, w2, rfl⟩ := i_ex j
  obtain ⟨E, M, C, D, I⟩ := id X
  obtain ⟨⟨W, Z, K⟩, I2, I3, I4, I5, I6⟩ := id I
  have w13 := W.2.2.2.2.2.1
  have B := C.2.2.2.2.2.1
  have hn := C.2.2.2.1
  have x0 : zI (P 6 0) = (0 : Int32) ↔ P 6 0 = 0 := zI_eq (b := 0) (by omega) (by omega) (by omega) (by omega)
  have hwk : f_C_within (zI k) (24 : Int32) = 0 ↔ ¬ (0 ≤ k ∧ k < 24) := s_within0 (b := 24) k1 k2 (by omega) (by omega)
  have hww : f_C_within (zI w) (2 : Int32) = 0 ↔ ¬ (0 ≤ w ∧ w < 2) := s_within0 (b := 2) w1 w2 (by omega) (by omega)
  have hik : f_M_in (zI k) (0 : Int32) (23 : Int32) = 0 ↔ ¬ (0 ≤ k ∧ k < 24) := by
    rw [show f_M_in (zI k) (0 : Int32) (23 : Int32) = if 0 ≤ k ∧ k ≤ 23 then 1 else 0 from s_M_in (a := 0) (b := 23) k1 k2 (by omega) (by omega) (by omega) (by omega), ite_01]
    omega
  have hiw : f_M_in (zI w) (0 : Int32) (1 : Int32) = 0 ↔ ¬ (0 ≤ w ∧ w < 2) := by
    rw [show f_M_in (zI w) (0 : Int32) (1 : Int32) = if 0 ≤ w ∧ w ≤ 1 then 1 else 0 from s_M_in (a := 0) (b := 1) w1 w2 (by omega) (by omega) (by omega) (by omega), ite_01]
    omega
  have g7 := (b_g B.1.1).2.2.2.2.2.2.2.1
  have hlies := s_lies E W B.1.1
  by_cases c0 : P 6 0 = 0
  · obtain ⟨g, e, c, X'⟩ := X.thr
    have M' := X'.2.1
    have A0 : g.1 40 = aZ 42 (P 6) := M'.2 6 (by omega) (by omega)
    refine ⟨-1000002, h, g, th P, ?_, ?_, X', Gr_eq c (by omega)⟩
    · unfold f_C_moor
      rw [cf8 C.1, bd]
      simp only [x0]
      rw [if_pos c0]
    · unfold f_M_moor
      rw [e, bd, mg15 M', bd, aldL A0 0 0 rfl (by decide) (by decide), bd]
      simp only [x0]
      rw [if_pos c0]
  · by_cases cb : (0 ≤ k ∧ k < 24) ∧ (0 ≤ w ∧ w < 2)
    · obtain ⟨ck, cw⟩ := cb
      obtain ⟨m, hm⟩ : ∃ m : Nat, P 6 13 = m := ⟨(P 6 13).toNat, by omega⟩
      obtain ⟨q, hq⟩ : ∃ q : Nat, k = q := ⟨k.toNat, by omega⟩
      have hm24 : m < 16777216 := by omega
      have hq24 : q < 24 := by omega
      have hon4 : onN m ≤ 4 := by have := K.2; rw [hm, Int.toNat_natCast] at this; exact this
      subst hq
      have hbit : ((zI (P 6 13) >>> (zI (q : Int) &&& 31)) &&& (1 : Int32)) = zI (btN m q : Nat) := by rw [hm, zN m, bitN (by omega) hq24, ← zN]
      have hbitC : f_C_bit (zI (P 6 13)) (zI (q : Int)) = zI (btN m q : Nat) := hbit
      have br := btN_r m q
      have xb : zI (btN m q : Nat) = zI w ↔ (btN m q : Int) = w := zI_eq (by omega) (by omega) (by omega) (by omega)
      have xw1 : zI w = (1 : Int32) ↔ w = 1 := zI_eq (b := 1) (by omega) (by omega) (by omega) (by omega)
      have hx : m ^^^ 2 ^ q < 16777216 := by
        have h2 : 2 ^ q < 2 ^ 24 := Nat.pow_lt_pow_right (by omega) hq24
        exact Nat.xor_lt_two_pow (n := 24) (by omega) h2
      have hpop : f_J_bitCount (zI (P 6 13)) = zI (onN m : Nat) := by rw [hm, zN, popc hm24, zN]
      have hones : f_M_ones F (zI (P 6 13)) = some (zI (onN m : Nat)) := by rw [hm, zN, m_ones (by omega) hm24, zN]
      have xp : zI (onN m : Nat) < (4 : Int32) ↔ (onN m : Int) < 4 := zI_lt (b := 4) (by omega) (by omega) (by omega) (by omega)
      have xo : zI (onN m : Nat) = (4 : Int32) ↔ (onN m : Int) = 4 := zI_eq (b := 4) (by omega) (by omega) (by omega) (by omega)
      have hxor : zI (P 6 13) ^^^ ((1 : Int32) <<< (zI (q : Int) &&& 31)) = zI ((m ^^^ 2 ^ q : Nat) : Int) := by
        have h2 : 2 ^ q < 2 ^ 24 := Nat.pow_lt_pow_right (by omega) hq24
        rw [hm, oneN hq24, zN, zN, nI_xor (by omega) (by omega)]
      obtain ⟨L, hL⟩ : ∃ L, L = lie (P 6 14) (P 6 15) := ⟨_, rfl⟩
      by_cases ca : ((btN m q : Nat) : Int) ≠ w ∧ (w = 1 → f_C_bit L (zI (q : Int)) ≠ 1 ∧ (onN m : Int) < 4)
      · obtain ⟨ca1, ca2⟩ := ca
        have hKn : Wk (upI (P 6) 13 ((m ^^^ 2 ^ q : Nat) : Int)) := by
          refine ⟨by rw [upI_n _ _ (by decide)]; exact K.1, ?_⟩
          rw [upI_s, Int.toNat_natCast]
          have hxn := xorN m q
          by_cases cz : btN m q = 0
          · rw [if_pos cz] at hxn
            rw [hxn]
            rw [hxn] at hx
            rw [onN_add hq24 cz hx]
            have := (ca2 (by omega)).2
            omega
          · rw [if_neg cz] at hxn
            have b1 : btN m q = 1 := by omega
            have hge : 2 ^ q ≤ m := by
              unfold btN at b1
              by_cases z : 2 ^ q ≤ m
              · exact z
              · rw [Nat.div_eq_of_lt (by omega)] at b1
                cases b1
            have hb2 : btN (m - 2 ^ q) q = 0 := by
              unfold btN at b1 ⊢
              have := Nat.sub_mul_div m (2 ^ q) 1
              rw [Nat.mul_one] at this
              rw [this]
              generalize m / 2 ^ q = y at *
              omega
            have := onN_add hq24 hb2 (by omega)
            rw [show m - 2 ^ q + 2 ^ q = m by omega] at this
            rw [hxn]
            omega
        obtain ⟨h1, h2, g0, g1, g2, Q, e1, eh2, hc1, hc2, hE2, hC1, hC2, hB1, hB2, e0, N0, e3, N1, hQ6, e4, N2, hch, hJ, hG, W2⟩ := X.act1 hF (k := 13) (x := ((m ^^^ 2 ^ q : Nat) : Int)) (Or.inr ⟨rfl, by omega, by omega⟩) hKn
        have hpop2 : f_J_bitCount (zI ((m ^^^ 2 ^ q : Nat) : Int)) = zI (onN (m ^^^ 2 ^ q) : Nat) := by rw [zN, popc hx, zN]
        have hones2 : f_M_ones F (zI ((m ^^^ 2 ^ q : Nat) : Int)) = some (zI (onN (m ^^^ 2 ^ q) : Nat)) := by rw [zN, m_ones (by omega) hx, zN]
        refine ⟨zI (onN (m ^^^ 2 ^ q) : Nat), h2, g2, _, ?_, ?_, hJ, hG⟩
        · have aon := fun (x : Option MH) => onc_o (x := x) (h := h) (a := 10) hn.choose_spec.choose_spec.1
          have g7' : gfi h1 (some 26) [1] 7 = some (zI (P 6 13)) := (b_g hB1).2.2.2.2.2.2.2.1
          have g7'' : gfi h2 (some 26) [1] 7 = some (zI ((m ^^^ 2 ^ q : Nat) : Int)) := (b_g hB2.1.1).2.2.2.2.2.2.2.1
          have e90 : b_C_moor_90 (some 3) (zI (q : Int)) h = some (zI (onN (m ^^^ 2 ^ q) : Nat), h2) := by
            unfold b_C_moor_90
            rw [cg2 C.1, bd, cg4 C.1, bd, aon, show (0 : Int32) = zI 0 from rfl, e1, bd, cg4 hC1, bd, g7', bd, hxor, bO_p7 hB1, ← eh2, bd, cg4 hC2, bd, g7'', bd, hpop2]
          have e68 : b_C_moor_68 (some 3) (zI (q : Int)) (zI w) h = some (zI (onN (m ^^^ 2 ^ q) : Nat), h2) := by
            unfold b_C_moor_68
            simp only [xw1]
            by_cases c1 : w = 1
            · rw [if_pos c1, cg4 C.1, bd, g7, bd, hpop]
              simp only [xp]
              rw [if_pos (ca2 c1).2, e90]
            · rw [if_neg c1, e90]
          unfold f_C_moor
          rw [cf8 C.1, bd]
          simp only [x0, hwk, hww]
          rw [if_neg c0, if_neg (show ¬ ¬ (0 ≤ (q : Int) ∧ (q : Int) < 24) from fun z => z ck), if_neg (show ¬ ¬ (0 ≤ w ∧ w < 2) from fun z => z cw), cg4 C.1, bd, g7, bd, hbitC]
          simp only [xb, xw1]
          rw [if_neg ca1]
          by_cases c1 : w = 1
          · rw [if_pos c1, bd, b_on B.1.1, hlies, bd, ← hL, if_neg (ca2 c1).1, e68]
          · rw [if_neg c1, e68]
        · have A0 : g0.1 40 = aZ 42 (P 6) := N0.2 6 (by omega) (by omega)
          have A1 : g1.1 40 = aZ 42 (P 6) := by rw [← hQ6]; exact N1.2 6 (by omega) (by omega)
          have A2 : g2.1 40 = aZ 42 (upI (P 6) 13 ((m ^^^ 2 ^ q : Nat) : Int)) := N2.2 6 (by omega) (by omega)
          have hbc : f_M_boatCells F (some 34) g0 = some (lie (P 6 14) (P 6 15)) := m_boatCells (P := th P) (by omega) N0 W
          have e96 : b_M_moor_96 F (some 34) (zI (q : Int)) g0 = some (zI (onN (m ^^^ 2 ^ q) : Nat), g2) := by
            unfold b_M_moor_96
            rw [mr_on N0, e3, bd, mg15 N1, bd, aldL A1 13 13 rfl (by decide) (by decide), bd, hxor, show (13 : Int32) = zI ((13 : Nat) : Int) from rfl, e4, bd, mg15 N2, bd, aldL A2 _ 13 rfl (by decide) (by decide), upI_s, bd, hones2]
            rfl
          have e74 : b_M_moor_74 F (some 34) (zI (q : Int)) (zI w) g0 = some (zI (onN (m ^^^ 2 ^ q) : Nat), g2) := by
            unfold b_M_moor_74
            simp only [xw1]
            by_cases c1 : w = 1
            · rw [if_pos c1, mg15 N0, bd, aldL A0 13 13 rfl (by decide) (by decide), bd, hones, bd]
              simp only [xo]
              rw [if_neg (by have := (ca2 c1).2; omega), e96]
            · rw [if_neg c1, e96]
          unfold f_M_moor
          rw [show (Value.int (0 : Int32)) = Value.int (zI 0) from rfl, e0, bd, mg15 N0, bd, aldL A0 0 0 rfl (by decide) (by decide), bd]
          simp only [x0, hik, hiw]
          rw [if_neg c0, if_neg (show ¬ ¬ (0 ≤ (q : Int) ∧ (q : Int) < 24) from fun z => z ck), if_neg (show ¬ ¬ (0 ≤ w ∧ w < 2) from fun z => z cw), bd, aldL A0 13 13 rfl (by decide) (by decide), bd, hbit]
          simp only [xb, xw1]
          rw [if_neg ca1]
          by_cases c1 : w = 1
          · have h1' := (ca2 c1).1
            rw [hL] at h1'
            rw [if_pos c1, mr_on N0, hbc, bd, if_neg (show ¬ ((lie (P 6 14) (P 6 15) >>> (zI (q : Int) &&& 31)) &&& (1 : Int32)) = 1 from h1'), e74]
          · rw [if_neg c1, e74]
      · obtain ⟨g, e, c, X'⟩ := X.thr
        have M' := X'.2.1
        have A0 : g.1 40 = aZ 42 (P 6) := M'.2 6 (by omega) (by omega)
        have hbc : f_M_boatCells F (some 34) g = some (lie (P 6 14) (P 6 15)) := m_boatCells (P := th P) (by omega) M' W
        refine ⟨if ((btN m q : Nat) : Int) = w then -1000002 else if f_C_bit L (zI (q : Int)) = 1 then -1000002 else -1000003, h, g, th P, ?_, ?_, X', Gr_eq c (by omega)⟩
        · unfold f_C_moor b_C_moor_68
          rw [cf8 C.1, bd]
          simp only [x0, hwk, hww]
          rw [if_neg c0, if_neg (show ¬ ¬ (0 ≤ (q : Int) ∧ (q : Int) < 24) from fun z => z ck), if_neg (show ¬ ¬ (0 ≤ w ∧ w < 2) from fun z => z cw), cg4 C.1, bd, g7, bd, hbitC]
          simp only [xb, xw1]
          by_cases c1 : ((btN m q : Nat) : Int) = w
          · rw [if_pos c1, if_pos c1]
          · rw [if_neg c1, if_neg c1]
            by_cases c2 : w = 1
            · rw [if_pos c2, bd, b_on B.1.1, hlies, bd, ← hL]
              by_cases c3 : f_C_bit L (zI (q : Int)) = 1
              · rw [if_pos c3, if_pos c3]
              · rw [if_neg c3, if_neg c3, if_pos c2, bd, g7, bd, hpop]
                simp only [xp]
                rw [if_neg (fun z => ca ⟨c1, fun _ => ⟨c3, z⟩⟩)]
            · exact absurd ⟨c1, fun z => absurd z c2⟩ ca
        · unfold f_M_moor b_M_moor_74
          rw [e, bd, mg15 M', bd, aldL A0 0 0 rfl (by decide) (by decide), bd]
          simp only [x0, hik, hiw]
          rw [if_neg c0, if_neg (show ¬ ¬ (0 ≤ (q : Int) ∧ (q : Int) < 24) from fun z => z ck), if_neg (show ¬ ¬ (0 ≤ w ∧ w < 2) from fun z => z cw), bd, aldL A0 13 13 rfl (by decide) (by decide), bd, hbit]
          simp only [xb, xw1]
          by_cases c1 : ((btN m q : Nat) : Int) = w
          · rw [if_pos c1, if_pos c1]
          · rw [if_neg c1, if_neg c1]
            by_cases c2 : w = 1
            · rw [if_pos c2, mr_on M', hbc, bd, ← hL]
              by_cases c3 : f_C_bit L (zI (q : Int)) = 1
              · rw [if_pos (show ((L >>> (zI (q : Int) &&& 31)) &&& (1 : Int32)) = 1 from c3), if_pos c3]
              · rw [if_neg (show ¬ ((L >>> (zI (q : Int) &&& 31)) &&& (1 : Int32)) = 1 from c3), if_neg c3, if_pos c2, bd, aldL A0 13 13 rfl (by decide) (by decide), bd, hones, bd]
                simp only [xo]
                rw [if_pos (by
                  by_cases z : (onN m : Int) = 4
                  · exact z
                  · exact absurd ⟨c1, fun _ => ⟨c3, by omega⟩⟩ ca)]
            · exact absurd ⟨c1, fun z => absurd z c2⟩ ca
    · obtain ⟨g, e, c, X'⟩ := X.thr
      have M' := X'.2.1
      have A0 : g.1 40 = aZ 42 (P 6) := M'.2 6 (by omega) (by omega)
      refine ⟨-1000001, h, g, th P, ?_, ?_, X', Gr_eq c (by omega)⟩
      · unfold f_C_moor
        rw [cf8 C.1, bd]
        simp only [x0, hwk, hww]
        rw [if_neg c0]
        by_cases ck : 0 ≤ k ∧ k < 24
        · rw [if_neg (show ¬ ¬ (0 ≤ k ∧ k < 24) from fun z => z ck), if_pos (fun z => cb ⟨ck, z⟩)]
        · rw [if_pos ck]
      · unfold f_M_moor
        rw [e, bd, mg15 M', bd, aldL A0 0 0 rfl (by decide) (by decide), bd]
        simp only [x0, hik, hiw]
        rw [if_neg c0]
        by_cases ck : 0 ≤ k ∧ k < 24
        · rw [if_neg (show ¬ ¬ (0 ≤ k ∧ k < 24) from fun z => z ck), if_pos (fun z => cb ⟨ck, z⟩)]
        · rw [if_pos ck]
