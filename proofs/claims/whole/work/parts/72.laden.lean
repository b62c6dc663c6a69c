/-! ===== laden, moor, silt ===== -/
theorem Wv_up {v : Nat → Int} (W : Wv v) {k : Nat} {x : Int} (h : (k = 16 ∧ 0 ≤ x ∧ x ≤ 1) ∨ (k = 13 ∧ 0 ≤ x ∧ x < 16777216)) : Wv (upI v k x) := by
  obtain ⟨w1, w2, w3, w4, w5, w13, w14, w15, w16, w17, w18⟩ := W
  have hk : k = 16 ∨ k = 13 := by omega
  have n1 : ∀ q : Nat, q ≠ 16 → q ≠ 13 → upI v k x q = v q := fun q q1 q2 => upI_n _ _ (by omega)
  refine ⟨by rw [n1 1 (by decide) (by decide)]; exact w1, by rw [n1 2 (by decide) (by decide)]; exact w2, by rw [n1 3 (by decide) (by decide)]; exact w3, by rw [n1 4 (by decide) (by decide)]; exact w4, fun i hi => ?_, ?_, by rw [n1 14 (by decide) (by decide)]; exact w14, by rw [n1 15 (by decide) (by decide)]; exact w15, ?_, by rw [n1 17 (by decide) (by decide)]; exact w17, fun q hq => by rw [n1 _ (by omega) (by omega)]; exact w18 q hq⟩
  · rw [n1 4 (by decide) (by decide)] at hi
    rw [n1 _ (by omega) (by omega), n1 _ (by omega) (by omega)]
    exact w5 i hi
  · by_cases e : k = 13
    · rw [e, upI_s]; omega
    · rw [upI_n _ _ (by omega)]; exact w13
  · by_cases e : k = 16
    · rw [e, upI_s]; omega
    · rw [upI_n _ _ (by omega)]; exact w16
theorem bO_p5 {h : MH} {a : Nat} {v : Nat → Int} (B : h.1 a = bO v a) (x : Int) : pfv h (some a) [1] 5 (.int (zI x)) = some (mj_up h a (bO (upI v 16 x) a)) := by
  rw [pfv_o B (by rw [bF_len]; decide) rfl, bF_set5]
theorem bO_p7 {h : MH} {a : Nat} {v : Nat → Int} (B : h.1 a = bO v a) (x : Int) : pfv h (some a) [1] 7 (.int (zI x)) = some (mj_up h a (bO (upI v 13 x) a)) := by
  rw [pfv_o B (by rw [bF_len]; decide) rfl, bF_set7]
/-- an act that changes one number (laden 16, moored 13) on both sides -/
theorem J.act1 {F : Nat} (hF : 10000 ≤ F) {h : MH} {P : Nat → Nat → Int} (X : J h P) {k : Nat} {x : Int} (hk : (k = 16 ∧ 0 ≤ x ∧ x ≤ 1) ∨ (k = 13 ∧ 0 ≤ x ∧ x < 16777216)) (hK : Wk (upI (P 6) k x)) :
    ∃ h1 h2 g0 g1 g2 Q, f_A_keep (some 10) (some 26) (zI 0) h = some h1 ∧ h2 = mj_up h1 26 (bO (upI (P 6) k x) 26) ∧ Ch 3 33 h h1 ∧ Ch 3 33 h h2 ∧ Es h2 ∧ CO h1 (P 6 0) (P 0 13) ∧ CO h2 (P 6 0) (P 0 13) ∧ h1.1 26 = bO (P 6) 26 ∧ Bx h2 26 (upI (P 6) k x) ∧
      pfv h2 (some 34) [11] 0 (.int (zI 0)) = some g0 ∧ Mr g0 (th P) ∧ f_M_notes F (some 34) g0 = some g1 ∧ Mr g1 Q ∧ Q 6 = P 6 ∧ ast g1 (some 40) 0 (zI k) (zI x) = some g2 ∧ Mr g2 (upR Q 6 (upI (P 6) k x)) ∧ Ch 34 47 h2 g2 ∧ J g2 (upR Q 6 (upI (P 6) k x)) ∧ Gr h h2 g2 ∧ Wv (upI (P 6) k x) := by
  obtain ⟨E, M, C, D, I⟩ := X
  obtain ⟨⟨W, Z, K⟩, I2, I3, I4, I5, I6⟩ := id I
  have B := C.2.2.2.2.2.1
  have hn := C.2.2.2.1
  have hn18 : 0 ≤ P 0 18 ∧ P 0 18 ≤ 24 := by
    obtain ⟨A, nx, a1, a2, a3, a4, a5⟩ := hn
    exact a4
  obtain ⟨h1, e1, c1, hAO⟩ := k_keep hn B.1.1 ⟨rfl, rfl, rfl, rfl, rfl⟩ W K 0
  have B1 := B.ch c1 (by omega) (by omega)
  have W2 := Wv_up W hk
  have c2 : Ch 26 28 h1 (mj_up h1 26 (bO (upI (P 6) k x) 26)) := Ch_up h1 _ (by omega) (by omega)
  have B2 : Bx (mj_up h1 26 (bO (upI (P 6) k x) 26)) 26 (upI (P 6) k x) := bx_up W B1 (upI_n _ _ (by omega)) (fun q hq => ⟨upI_n _ _ (by omega), upI_n _ _ (by omega)⟩) (fun q => upI_n _ _ (by omega))
  have hall : Ch 3 33 h (mj_up h1 26 (bO (upI (P 6) k x) 26)) := (c1.w (by omega) (by omega)).tr (c2.w (by omega) (by omega))
  have Z2 : Wz (upI (P 6) k x) := fun q hq => by rw [upI_n _ _ (by omega)]; exact Z q hq
  obtain ⟨g0, e0, b0, N0⟩ := mr_pf (M.fr hall (by omega)) 0 rfl 0
  obtain ⟨g1, f, e3, b3, N3, hpush⟩ := m_notes (F := F) hF N0 hn18 Z
  obtain ⟨g2, e4, b4, N4⟩ := mr_st N3 6 (c := 40) (k := (k : Int)) rfl (by omega) (by omega) x (by omega) (show (k : Int) < (42 : Nat) by omega)
  have N4' : Mr g2 (upR (upR (upR (th P) 8 f) 0 (upI (th P 0) 18 (min 24 (P 0 18 + 1)))) 6 (upI (P 6) k x)) := by
    refine N4.cg (fun j _ => ?_)
    rw [Int.toNat_natCast]
    rfl
  have AO1 := hAO f (upI (P 6) k x) hpush (fun q hq => (upI_n _ _ (by omega)).symm) (fun c hc => by rw [upI_n _ _ (by omega), lb_0 hc]; omega)
  have hs0 : upI (P 6) k x 0 = P 6 0 := upI_n _ _ (by omega)
  refine ⟨h1, _, g0, g1, g2, _, e1, rfl, c1.w (by omega) (by omega), hall, hall.es (by omega) E, C.1.fr c1 (by omega), (C.1.fr c1 (by omega)).fr c2 (by omega), B1.1.1, B2, e0, N0, e3, N3, rfl, e4, N4', b0.tr (b3.tr b4), J.fin (hall.es (by omega) E) (P1 := upR (upR (upR P 6 (upI (P 6) k x)) 8 f) 0 (upI (P 0) 18 (min 24 (P 0 18 + 1)))) ?_ (D.fr hall (by omega)) ?_ (b0.tr (b3.tr b4)) N4' ⟨⟨rfl, rfl, rfl, rfl, rfl, rfl, rfl, rfl, rfl⟩, rfl, rfl, rfl, rfl, rfl⟩, Gr_2 hall (b0.tr (b3.tr b4)) (by omega) (by omega), W2⟩
  · exact CY.cr ((C.x.fr c1 (by omega)).fr c2 (by omega)) (AO1.fr c2 (by omega)) B2 ⟨hs0, ⟨rfl, rfl, rfl, rfl, rfl, rfl, rfl⟩, rfl, rfl, rfl, rfl⟩
  · exact ⟨⟨W2, Z2, hK⟩, (show (upI (P 6) k x 0 = 0 ∧ ∀ q : Nat, q < 2 → P 10 q = 0) ∨ upI (P 6) k x 0 = 1 by rw [hs0]; exact I2), I3, I4, I5, I6⟩
theorem s_laden {F : Nat} (hF : 10000 ≤ F) (i : Int32) : Ok (f_C_laden (some 3) i) (f_M_laden F (some 34) i) := by
  intro h P X
  obtain ⟨k, k1, k2, rfl⟩ := i_ex i
  obtain ⟨E, M, C, D, I⟩ := id X
  obtain ⟨⟨W, Z, K⟩, I2, I3, I4, I5, I6⟩ := id I
  have w16 := W.2.2.2.2.2.2.2.2.1
  have B := C.2.2.2.2.2.1
  have hn := C.2.2.2.1
  have x0 : zI (P 6 0) = (0 : Int32) ↔ P 6 0 = 0 := zI_eq (b := 0) (by omega) (by omega) (by omega) (by omega)
  have hw : f_C_within (zI k) (2 : Int32) = 0 ↔ ¬ (0 ≤ k ∧ k < 2) := s_within0 (b := 2) k1 k2 (by omega) (by omega)
  have hin : f_M_in (zI k) (0 : Int32) (1 : Int32) = 0 ↔ ¬ (0 ≤ k ∧ k < 2) := by
    rw [show f_M_in (zI k) (0 : Int32) (1 : Int32) = if 0 ≤ k ∧ k ≤ 1 then 1 else 0 from s_M_in (a := 0) (b := 1) k1 k2 (by omega) (by omega) (by omega) (by omega), ite_01]
    omega
  have xk : zI (P 6 16) = zI k ↔ P 6 16 = k := zI_eq (by omega) (by omega) (by omega) (by omega)
  have g5 := (b_g B.1.1).2.2.2.2.2.1
  by_cases cb : P 6 0 ≠ 0 ∧ (0 ≤ k ∧ k < 2) ∧ P 6 16 ≠ k
  · obtain ⟨c0, ck, c16⟩ := cb
    obtain ⟨h1, h2, g0, g1, g2, Q, e1, eh2, hc1, hc2, hE2, hC1, hC2, hB1, hB2, e0, N0, e3, N1, hQ6, e4, N2, hch, hJ, hG, W2⟩ := X.act1 hF (k := 16) (x := k) (Or.inl ⟨rfl, by omega, by omega⟩) ⟨by rw [upI_n _ _ (by decide)]; exact K.1, by rw [upI_n _ _ (by decide)]; exact K.2⟩
    refine ⟨zI (vD (upI (P 6) 16 k) 0), h2, g2, _, ?_, ?_, hJ, hG⟩
    · have aon := fun (x : Option MH) => onc_o (x := x) (h := h) (a := 10) hn.choose_spec.choose_spec.1
      unfold f_C_laden
      rw [cf8 C.1, bd]
      simp only [x0, hw]
      rw [if_neg c0, if_neg (show ¬ ¬ (0 ≤ k ∧ k < 2) from fun z => z ck), cg4 C.1, bd, g5, bd]
      simp only [xk]
      rw [if_neg c16, cg2 C.1, bd, bd, aon, show (0 : Int32) = zI 0 from rfl, e1, bd, cg4 hC1, bd, bO_p5 hB1, ← eh2, bd, cg4 hC2, bd, b_on hB2.1.1, s_B_sinks hB2.1.1 W2]
      rfl
    · have A0 : g0.1 40 = aZ 42 (P 6) := N0.2 6 (by omega) (by omega)
      have A2 : g2.1 40 = aZ 42 (upI (P 6) 16 k) := N2.2 6 (by omega) (by omega)
      have hd : f_M_draughtOf (some 40) (0 : Int32) g2 = some (zI (vD (upI (P 6) 16 k) 0)) := s_M_draught (less := 0) W2 A2 (by omega) (by omega)
      unfold f_M_laden
      rw [show (Value.int (0 : Int32)) = Value.int (zI 0) from rfl, e0, bd, mg15 N0, bd, aldL A0 0 0 rfl (by decide) (by decide), bd]
      simp only [x0, hin]
      rw [if_neg c0, if_neg (show ¬ ¬ (0 ≤ k ∧ k < 2) from fun z => z ck), bd, aldL A0 16 16 rfl (by decide) (by decide), bd]
      simp only [xk]
      rw [if_neg c16, mr_on N0, e3, bd, mg15 N1, bd, show (16 : Int32) = zI ((16 : Nat) : Int) from rfl, e4, bd, mg15 N2, bd, hd]
      rfl
  · obtain ⟨g, e, c, X'⟩ := X.thr
    have M' := X'.2.1
    have A0 : g.1 40 = aZ 42 (P 6) := M'.2 6 (by omega) (by omega)
    refine ⟨if P 6 0 = 0 then -1000002 else if 0 ≤ k ∧ k < 2 then -1000002 else -1000001, h, g, th P, ?_, ?_, X', Gr_eq c (by omega)⟩
    · unfold f_C_laden
      rw [cf8 C.1, bd]
      simp only [x0, hw]
      by_cases c0 : P 6 0 = 0
      · rw [if_pos c0, if_pos c0]
      · rw [if_neg c0, if_neg c0]
        by_cases ck : 0 ≤ k ∧ k < 2
        · rw [if_neg (show ¬ ¬ (0 ≤ k ∧ k < 2) from fun z => z ck), if_pos ck, cg4 C.1, bd, g5, bd]
          simp only [xk]
          rw [if_pos (by
            by_cases z : P 6 16 = k
            · exact z
            · exact absurd ⟨c0, ck, z⟩ cb)]
        · rw [if_pos ck, if_neg ck]
    · unfold f_M_laden
      rw [e, bd, mg15 M', bd, aldL A0 0 0 rfl (by decide) (by decide), bd]
      simp only [x0, hin]
      by_cases c0 : P 6 0 = 0
      · rw [if_pos c0, if_pos c0]
      · rw [if_neg c0, if_neg c0]
        by_cases ck : 0 ≤ k ∧ k < 2
        · rw [if_neg (show ¬ ¬ (0 ≤ k ∧ k < 2) from fun z => z ck), if_pos ck, bd, aldL A0 16 16 rfl (by decide) (by decide), bd]
          simp only [xk]
          rw [if_pos (by
            by_cases z : P 6 16 = k
            · exact z
            · exact absurd ⟨c0, ck, z⟩ cb)]
        · rw [if_pos ck, if_neg ck]
