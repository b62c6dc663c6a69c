/-! ===== restore ===== -/
theorem m_restore31 {F : Nat} {k : Nat} (hk : k < 2) : ∀ (d e fu : Nat) (g : MH) (Q : Nat → Nat → Int), e + d = 42 → d < fu → Mr g Q → ∃ g' f, b_M_restore_31 F fu (some 34) (zI (k : Int)) (zI (e : Int)) g = some (1, g') ∧ Ch 34 47 g g' ∧ Mr g' (upR (upR Q 6 f) 0 (upI (Q 0) 18 0)) ∧ ∀ j, f j = if e ≤ j ∧ j < 42 then Q 9 (42 * k + j) else Q 6 j := by
  intro d
  induction d with
  | zero =>
    intro e fu g Q he hf M
    obtain ⟨fu, rfl⟩ : ∃ q, fu = q + 1 := ⟨fu - 1, by omega⟩
    obtain ⟨g1, e1, c1, M1⟩ := mr_pf M 18 rfl 0
    refine ⟨g1, Q 6, ?_, c1, M1.cg (fun j _ => ?_), fun j => by rw [if_neg (by omega)]⟩
    · unfold b_M_restore_31
      simp (disch := omega) only [l42, zI_le]
      rw [if_pos (by omega), show (Value.int (0 : Int32)) = Value.int (zI 0) from rfl, e1]
      rfl
    · unfold upR
      by_cases c : j = 0
      · rw [if_pos c, if_pos c]
      · rw [if_neg c, if_neg c]
        by_cases c2 : j = 6
        · rw [if_pos c2, c2]
        · rw [if_neg c2]
  | succ d ih =>
    intro e fu g Q he hf M
    obtain ⟨fu, rfl⟩ : ∃ q, fu = q + 1 := ⟨fu - 1, by omega⟩
    have A9 : g.1 43 = aZ 84 (Q 9) := M.2 9 (by omega) (by omega)
    obtain ⟨g1, e1, c1, M1⟩ := mr_st M 6 (c := 40) (k := (e : Int)) rfl (by omega) (by omega) (Q 9 (42 * k + e)) (by omega) (show (e : Int) < (42 : Nat) by omega)
    have e1' : ast g (some 40) 0 (zI (e : Int)) (zI (Q 9 (42 * k + e))) = some g1 := e1
    obtain ⟨g2, f, e2, c2, M2, hf2⟩ := ih (e + 1) fu g1 _ (by omega) (by omega) M1
    refine ⟨g2, f, ?_, c1.tr c2, M2.cg (fun j _ => ?_), fun j => ?_⟩
    · unfold b_M_restore_31
      simp (disch := omega) only [l42, zI_le]
      rw [if_neg (by omega), mg15 M, bd, mg19 M, bd, zI_mul, zI_add, show 42 * (k : Int) + e = ((42 * k + e : Nat) : Int) by omega, aldN A9 (k := 42 * k + e) (by omega) (by omega), bd, e1', bd]
      rw [show (zI (e : Int) + (1 : Int32)) = zI ((e + 1 : Nat) : Int) by rw [l1, zI_add]; rfl]
      exact e2
    · unfold upR
      by_cases c : j = 0
      · rw [if_pos c, if_pos c]
        rfl
      · rw [if_neg c, if_neg c]
        by_cases c2 : j = 6
        · rw [if_pos c2, if_pos c2]
        · rw [if_neg c2, if_neg c2, if_neg c2]
    · rw [hf2 j]
      show (if e + 1 ≤ j ∧ j < 42 then Q 9 (42 * k + j) else upI (Q 6) ((e : Int)).toNat (Q 9 (42 * k + e)) j) = _
      rw [Int.toNat_natCast]
      by_cases c : j = e
      · rw [if_neg (by omega), if_pos (by omega), c, upI_s]
      · rw [upI_n _ _ c]
        by_cases c2 : e + 1 ≤ j ∧ j < 42
        · rw [if_pos c2, if_pos (by omega)]
        · rw [if_neg c2, if_neg (by omega)]
/-- the acts are forgotten -/
theorem c_forget {h : MH} {v ac : Nat → Int} {n : Int} (X : AO h v ac n) : ∃ h', (∀ x : Option MH, onc h (some 10) 0 x = x) ∧ f_A_forget (some 10) h = some h' ∧ Ch 10 16 h h' ∧ ∀ v2 ac2, AO h' v2 ac2 0 := by
  obtain ⟨A, nx, a1, a2, a3, a4, a5⟩ := X
  obtain ⟨-, ⟨h', e, c, X'⟩⟩ := ap_pf (A := A) ⟨a1, a2⟩ 0 0
  refine ⟨h', fun x => onc_o a1, ?_, c, fun v2 ac2 => ⟨A, nx, X'.1, X'.2, a3, by omega, fun j hj => by omega⟩⟩
  unfold f_A_forget
  rw [show (0 : Int32) = zI 0 from rfl, e]
  rfl
theorem s_restore {F : Nat} (hF : 10000 ≤ F) (i : Int32) : Ok (f_C_restore F (some 3) i) (f_M_restore F (some 34) i) := by
  intro h P X
  obtain ⟨k, k1, k2, rfl⟩ := i_ex i
  obtain ⟨E, M, C, D, I⟩ := id X
  obtain ⟨⟨W, Z, K⟩, I2, I3, I4, I5, I6⟩ := id I
  have B := C.2.2.2.2.2.1
  have hn := C.2.2.2.1
  obtain ⟨gi, y1, y2, y3⟩ := C.2.2.2.2.2.2.2.1
  have hw : f_C_within (zI k) (zI 2) = 0 ↔ ¬ (0 ≤ k ∧ k < 2) := s_within0 (b := 2) k1 k2 (by omega) (by omega)
  have hin : f_M_in (zI k) (0 : Int32) (1 : Int32) = 0 ↔ ¬ (0 ≤ k ∧ k < 2) := by
    rw [show f_M_in (zI k) (0 : Int32) (1 : Int32) = if 0 ≤ k ∧ k ≤ 1 then 1 else 0 from s_M_in (a := 0) (b := 1) k1 k2 (by omega) (by omega) (by omega) (by omega), ite_01]
    omega
  by_cases ck : 0 ≤ k ∧ k < 2
  · obtain ⟨q, hq⟩ : ∃ q : Nat, k = q := ⟨k.toNat, by omega⟩
    subst hq
    have hq2 : q < 2 := by omega
    rcases y2 q hq2 with ⟨z1, z2⟩ | ⟨z1, p, z2, z3, z4, z5, z6, z7⟩
    · obtain ⟨g, e, c, X'⟩ := X.thr
      have M' := X'.2.1
      have hl : ald g (some 44) 1 (zI (q : Int)) = some (zI (P 10 q)) := by
        have := mr_ld M' 10 (c := 44) rfl (by omega) (by omega) (k := (q : Int)) (by omega) (show (q : Int) < (2 : Nat) by omega)
        rw [Int.toNat_natCast] at this
        exact this
      refine ⟨-1000002, h, g, th P, ?_, ?_, X', Gr_eq c (by omega)⟩
      · unfold f_C_restore
        rw [cg6 C.1, bd, alen_i2 y1, bd]
        simp only [hw]
        rw [if_neg (show ¬ ¬ (0 ≤ (q : Int) ∧ (q : Int) < 2) from fun z => z ck), bd, qld_i y1 hq2, bd, if_pos z2]
      · unfold f_M_restore
        rw [e, bd]
        simp only [hin]
        rw [if_neg (show ¬ ¬ (0 ≤ (q : Int) ∧ (q : Int) < 2) from fun z => z ck), mg20 M', bd, hl, bd, z1, if_pos (show zI 0 = (0 : Int32) from rfl)]
    · have w4 := z5.2.2.2.1
      have Zq : Wz (aE (P 9) q) := by
        intro j hj
        unfold aE
        rw [if_neg (by omega)]
      obtain ⟨h1, e1, c1, kk1, B1⟩ := s_become (F := F) (a := 26) (b := p) (v := aE (P 9) q) (by omega) (by omega) (by omega) B.2 z4 Zq (by omega)
      obtain ⟨h2, o2, e2, c2, A2⟩ := c_forget (hn.fr c1 (by omega))
      have hall : Ch 3 33 h h2 := (c1.w (by omega) (by omega)).tr (c2.w (by omega) (by omega))
      have B2 := B1.ch c2 (by omega) (by omega)
      obtain ⟨g0, e0, b0, N0⟩ := mr_pf (M.fr hall (by omega)) 0 rfl 0
      obtain ⟨g1, f, e5, b5, N1, hf⟩ := m_restore31 (F := F) hq2 42 0 F g0 _ rfl (by omega) N0
      have ef : f = aE (P 9) q := by
        funext j
        rw [hf]
        unfold aE
        by_cases cj : j < 42
        · rw [if_pos (by omega), if_pos cj]
          rfl
        · rw [if_neg (by omega), if_neg cj]
          exact Z j (by omega)
      have hl : ald g0 (some 44) 1 (zI (q : Int)) = some (zI (P 10 q)) := by
        have := mr_ld N0 10 (c := 44) rfl (by omega) (by omega) (k := (q : Int)) (by omega) (show (q : Int) < (2 : Nat) by omega)
        rw [Int.toNat_natCast] at this
        exact this
      have told : P 6 0 = 1 := by
        rcases I2 with ⟨-, y⟩ | y
        · have := y q hq2
          omega
        · exact y
      have C1 : CO h1 (P 6 0) (P 0 13) := C.1.fr c1 (by omega)
      refine ⟨1, h2, g1, _, ?_, ?_, J.fin (hall.es (by omega) E) (P1 := upR (upR P 6 f) 0 (upI (P 0) 18 0)) ?_ (D.fr hall (by omega)) ?_ (b0.tr b5) N1 ⟨⟨rfl, rfl, rfl, rfl, rfl, rfl, rfl, rfl, rfl⟩, rfl, rfl, rfl, rfl, rfl⟩, Gr_2 hall (b0.tr b5) (by omega) (by omega)⟩
      · unfold f_C_restore
        rw [cg6 C.1, bd, alen_i2 y1, bd]
        simp only [hw]
        rw [if_neg (show ¬ ¬ (0 ≤ (q : Int) ∧ (q : Int) < 2) from fun z => z ck), bd, qld_i y1 hq2, bd, z2, if_neg (by intro z; cases z), cg4 C.1, bd, b_on B.1.1, e1, bd, cg2 C1, bd, o2, e2]
        rfl
      · unfold f_M_restore
        rw [show (Value.int (0 : Int32)) = Value.int (zI 0) from rfl, e0, bd]
        simp only [hin]
        rw [if_neg (show ¬ ¬ (0 ≤ (q : Int) ∧ (q : Int) < 2) from fun z => z ck), mg20 N0, bd, hl, bd, z1, if_neg (by decide), l0]
        exact e5
      · refine CY.cr ((C.x.fr c1 (by omega)).fr c2 (by omega)) (A2 _ _) (by show Bx h2 26 f; rw [ef]; exact B2) ⟨by show f 0 = P 6 0; rw [ef, z7, told], ⟨rfl, rfl, rfl, rfl, rfl, rfl, rfl⟩, rfl, rfl, rfl, rfl⟩
      · refine ⟨⟨by show Wv f; rw [ef]; exact z5, by show Wz f; rw [ef]; exact Zq, by show Wk f; rw [ef]; exact z6⟩, Or.inr (by show f 0 = 1; rw [ef]; exact z7), I3, I4, I5, I6⟩
  · obtain ⟨g, e, c, X'⟩ := X.thr
    refine ⟨-1000001, h, g, th P, ?_, ?_, X', Gr_eq c (by omega)⟩
    · unfold f_C_restore
      rw [cg6 C.1, bd, alen_i2 y1, bd]
      simp only [hw]
      rw [if_pos ck]
    · unfold f_M_restore
      rw [e, bd]
      simp only [hin]
      rw [if_pos ck]
