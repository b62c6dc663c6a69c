/-! ===== years, laden or not ===== -/
noncomputable def yrV : (Nat → Int) → Nat → Int → Int
  | _, 0, _ => -1000000
  | v, d + 1, k => if mT v 0 = -1000000 then k else yrV (sl v) d (k + 1)
theorem c_years23 {F : Nat} (hF : 1000000 ≤ F) {P : Nat → Nat → Int} : ∀ (d k fu : Nat) (h : MH) (v : Nat → Int), k + d = 11 → d < fu → Es h → CR h P → Bx h 29 v → Wv v → Wz v → ∃ h', b_C_years_23 F fu (some 3) (zI k) h = some (zI (yrV v d k), h') ∧ Ch 17 31 h h' ∧ CR h' P := by
  intro d
  induction d with
  | zero =>
    intro k fu h v hk hf E C B W Z
    obtain ⟨fu, rfl⟩ : ∃ q, fu = q + 1 := ⟨fu - 1, by omega⟩
    refine ⟨h, ?_, Ch_0 _ _ h, C⟩
    unfold b_C_years_23 yrV
    simp (disch := omega) only [l10, zI_lt]
    rw [if_pos (by omega)]
    rfl
  | succ d ih =>
    intro k fu h v hk hf E C B W Z
    obtain ⟨fu, rfl⟩ : ∃ q, fu = q + 1 := ⟨fu - 1, by omega⟩
    obtain ⟨h1, on, es, e1, c1, C1, B1⟩ := c_trial hF E C B W
    obtain ⟨h2, e2, c2, B2⟩ := s_siltUp (F := F) (by omega) (a := 29) (by omega) W Z B1
    have c2' : Ch 29 31 h1 h2 := c2.w (by omega) (by omega)
    have hr := mT_r W (less := 0) (by omega) (by omega)
    have xm : zI (mT v 0) = (-1000000 : Int32) ↔ mT v 0 = -1000000 := zI_eq (b := -1000000) (by omega) (by omega) (by omega) (by omega)
    have x10 : (10 : Int32) < zI (k : Int) ↔ 10 < (k : Int) := zI_lt (a := 10) (by omega) (by omega) (by omega) (by omega)
    have hu : b_C_years_23 F (fu + 1) (some 3) (zI k) h = if mT v 0 = -1000000 then some (zI k, h1) else b_C_years_23 F fu (some 3) (zI ((k + 1 : Nat) : Int)) h2 := by
      conv => lhs; unfold b_C_years_23
      simp only [x10]
      rw [if_neg (show ¬ 10 < (k : Int) by omega), cg3 C.1, bd, cg5 C.1, bd, bd, b_on B.1.1, es, bd, on, e1, bd]
      simp only [xm]
      rw [cg5 C1.1, bd, b_on B1.1.1, e2, bd, l1, zI_add]
      rfl
    rw [hu]
    unfold yrV
    by_cases cm : mT v 0 = -1000000
    · rw [if_pos cm, if_pos cm]
      exact ⟨h1, rfl, c1, C1⟩
    · rw [if_neg cm, if_neg cm]
      obtain ⟨h3, e3, c3, C3⟩ := ih (k + 1) fu h2 (sl v) (by omega) (by omega) ((c1.tr (c2'.w (by omega) (by omega))).es (by omega) E) (C1.tr c2' B2) B2 (sl_W W) (sl_Z Z)
      exact ⟨h3, e3, c1.tr ((c2'.w (by omega) (by omega)).tr c3), C3⟩
theorem m_years30 {F : Nat} (hF : 1000000000000 ≤ F) : ∀ (d k fu : Nat) (g : MH) (Q : Nat → Nat → Int), k + d = 11 → d < fu → Mr g Q → Wv (Q 7) → Wz (Q 7) → ∃ g' f b, b_M_years_30 F fu (some 34) (zI k) g = some (zI (yrV (Q 7) d k), g') ∧ Ch 34 47 g g' ∧ Mr g' (upR (upR Q 7 f) 12 b) ∧ Wz f := by
  intro d
  induction d with
  | zero =>
    intro k fu g Q hk hf M W Z
    obtain ⟨fu, rfl⟩ : ∃ q, fu = q + 1 := ⟨fu - 1, by omega⟩
    refine ⟨g, Q 7, Q 12, ?_, Ch_0 _ _ g, by rw [upR_id2]; exact M, Z⟩
    unfold b_M_years_30 yrV
    simp (disch := omega) only [l11, zI_le]
    rw [if_pos (by omega)]
    rfl
  | succ d ih =>
    intro k fu g Q hk hf M W Z
    obtain ⟨fu, rfl⟩ : ∃ q, fu = q + 1 := ⟨fu - 1, by omega⟩
    obtain ⟨g1, b', e1, c1, N1, -⟩ := rm_turned hF M (c := 41) 7 rfl (Or.inr rfl) W (less := 0) (by omega) (by omega)
    obtain ⟨g2, e2, c2, N2⟩ := m_silts (F := F) (by omega) N1 (c := 41) 7 rfl (Or.inr rfl) W
    have hr := mT_r W (less := 0) (by omega) (by omega)
    have xm : zI (mT (Q 7) 0) = (-1000000 : Int32) ↔ mT (Q 7) 0 = -1000000 := zI_eq (b := -1000000) (by omega) (by omega) (by omega) (by omega)
    have x11 : (11 : Int32) ≤ zI (k : Int) ↔ 11 ≤ (k : Int) := zI_le (a := 11) (by omega) (by omega) (by omega) (by omega)
    have hu : b_M_years_30 F (fu + 1) (some 34) (zI k) g = if mT (Q 7) 0 = -1000000 then some (zI k, g1) else b_M_years_30 F fu (some 34) (zI ((k + 1 : Nat) : Int)) g2 := by
      conv => lhs; unfold b_M_years_30
      simp only [x11]
      rw [if_neg (show ¬ 11 ≤ (k : Int) by omega), mg16 M, bd, mr_on M, show (0 : Int32) = zI 0 from rfl, e1, bd]
      simp only [xm]
      rw [mg16 N1, bd, e2, bd, l1, zI_add]
      rfl
    rw [hu]
    unfold yrV
    by_cases cm : mT (Q 7) 0 = -1000000
    · rw [if_pos cm, if_pos cm]
      refine ⟨g1, Q 7, b', rfl, c1, N1.cg (fun j _ => ?_), Z⟩
      unfold upR
      by_cases c : j = 12
      · rw [if_pos c, if_pos c]
      · rw [if_neg c, if_neg c]
        by_cases c2 : j = 7
        · rw [if_pos c2, c2]
        · rw [if_neg c2]
    · rw [if_neg cm, if_neg cm]
      obtain ⟨g3, f, b, e3, c3, N3, Zf⟩ := ih (k + 1) fu g2 _ (by omega) (by omega) N2 (sl_W W) (sl_Z Z)
      refine ⟨g3, f, b, e3, c1.tr (c2.tr c3), N3.cg (fun j _ => ?_), Zf⟩
      unfold upR
      by_cases c : j = 12 <;> by_cases c2 : j = 7 <;> simp [c, c2]
theorem s_years {F : Nat} (hF : 1000000000000 ≤ F) : Ok (f_C_years F (some 3)) (f_M_years F (some 34)) := by
  intro h P X
  obtain ⟨E, M, C, D, I⟩ := id X
  obtain ⟨⟨W, Z, K⟩, I2, I3, I4, I5, I6⟩ := id I
  have w4 := W.2.2.2.1
  have B := C.2.2.2.2.2.1
  have x0 : zI (P 6 0) = (0 : Int32) ↔ P 6 0 = 0 := zI_eq (b := 0) (by omega) (by omega) (by omega) (by omega)
  by_cases c0 : P 6 0 = 0
  · obtain ⟨g, e, c, X'⟩ := X.thr
    have M' := X'.2.1
    have A0 : g.1 40 = aZ 42 (P 6) := M'.2 6 (by omega) (by omega)
    refine ⟨-1000002, h, g, th P, ?_, ?_, X', Gr_eq c (by omega)⟩
    · unfold f_C_years
      rw [cf8 C.1, bd]
      simp only [x0]
      rw [if_pos c0]
    · unfold f_M_years
      rw [e, bd, mg15 M', bd, aldL A0 0 0 rfl (by decide) (by decide), bd]
      simp only [x0]
      rw [if_pos c0]
  · obtain ⟨h1, e1, c1, k1, B1⟩ := s_become (F := F) (a := 29) (b := 26) (by omega) (by omega) (by omega) C.2.2.2.2.2.2.1 B Z (by omega)
    have C1 := C.tr c1 B1
    obtain ⟨h2, e2, c2, C2⟩ := c_years23 (F := F) (by omega) 11 0 F h1 (P 6) rfl (by omega) (c1.es (by omega) E) C1 B1 W Z
    have hall : Ch 17 31 h h2 := (c1.w (by omega) (by omega)).tr c2
    obtain ⟨g0, e0, b0, N0⟩ := mr_pf (M.fr hall (by omega)) 0 rfl 0
    obtain ⟨g1, e3, b1, N1⟩ := r_copies (F := F) (by omega) 6 7 (c := 40) (c' := 41) rfl rfl (by omega) (by omega) (by omega) N0 Z I6
    obtain ⟨g2, f, b', e4, b2', N2, Zf⟩ := m_years30 hF 11 0 F g1 _ rfl (by omega) N1 W Z
    have A0 : g0.1 40 = aZ 42 (P 6) := N0.2 6 (by omega) (by omega)
    refine ⟨zI (yrV (P 6) 11 ((0 : Nat) : Int)), h2, g2, _, ?_, ?_, J.fin (hall.es (by omega) E) C2 (D.fr hall (by omega)) ?_ (b0.tr (b1.tr b2')) N2 ⟨⟨rfl, rfl, rfl, rfl, rfl, rfl, rfl, rfl, rfl⟩, rfl, rfl, rfl, rfl, rfl⟩, Gr_2 hall (b0.tr (b1.tr b2')) (by omega) (by omega)⟩
    · unfold f_C_years
      rw [cf8 C.1, bd]
      simp only [x0]
      rw [if_neg c0, cg5 C.1, bd, cg4 C.1, bd, b_on C.2.2.2.2.2.2.1.choose_spec.choose_spec.choose_spec.1, e1, bd, l0]
      exact e2
    · unfold f_M_years
      rw [show (Value.int (0 : Int32)) = Value.int (zI 0) from rfl, e0, bd, mg15 N0, bd, aldL A0 0 0 rfl (by decide) (by decide), bd]
      simp only [x0]
      rw [if_neg c0, bd, mg16 N0, bd, e3, bd, l0]
      exact e4
    · exact ⟨⟨W, Z, K⟩, I2, I3, I4, I5, Zf⟩
/-! laden or not -/
theorem c_ifLaden {F : Nat} (hF : 1000000 ≤ F) {h : MH} {P : Nat → Nat → Int} (E : Es h) (C : CR h P) (W : Wv (P 6)) (Z : Wz (P 6)) {x : Int} (x1 : 0 ≤ x) (x2 : x ≤ 1) : ∃ h', f_C_minutesIfLaden F (some 3) (zI x) h = some (zI (mT (upI (P 6) 16 x) 0), h') ∧ Ch 17 31 h h' ∧ CR h' P := by
  have w4 := W.2.2.2.1
  obtain ⟨h1, e1, c1, k1, B1⟩ := s_become (F := F) (a := 29) (b := 26) (by omega) (by omega) (by omega) C.2.2.2.2.2.2.1 C.2.2.2.2.2.1 Z (by omega)
  have C1 := C.tr c1 B1
  have cu : Ch 29 31 h1 (mj_up h1 29 (bO (upI (P 6) 16 x) 29)) := Ch_up h1 _ (by omega) (by omega)
  have B2 : Bx (mj_up h1 29 (bO (upI (P 6) 16 x) 29)) 29 (upI (P 6) 16 x) := bx_up W B1 (upI_n _ _ (by omega)) (fun q hq => ⟨upI_n _ _ (by omega), upI_n _ _ (by omega)⟩) (fun q => upI_n _ _ (by omega))
  have C2 := C1.tr cu B2
  obtain ⟨h3, on, es, e3, c3, C3, B3⟩ := c_trial hF ((c1.tr cu).es (by omega) E) C2 B2 (Wv_up W (Or.inl ⟨rfl, x1, x2⟩))
  refine ⟨h3, ?_, ((c1.tr cu).w (by omega) (by omega)).tr c3, C3⟩
  unfold f_C_minutesIfLaden
  rw [cg5 C.1, bd, cg4 C.1, bd, b_on C.2.2.2.2.2.2.1.choose_spec.choose_spec.choose_spec.1, e1, bd, cg5 C1.1, bd, bO_p5 B1.1.1, bd, cg3 C2.1, bd, cg5 C2.1, bd, bd, b_on B2.1.1, es, bd, on, e3]
  rfl
theorem s_better {F : Nat} (hF : 1000000000000 ≤ F) : Ok (f_C_better F (some 3)) (f_M_better F (some 34)) := by
  intro h P X
  obtain ⟨E, M, C, D, I⟩ := id X
  obtain ⟨⟨W, Z, K⟩, I2, I3, I4, I5, I6⟩ := id I
  have w4 := W.2.2.2.1
  have x0 : zI (P 6 0) = (0 : Int32) ↔ P 6 0 = 0 := zI_eq (b := 0) (by omega) (by omega) (by omega) (by omega)
  by_cases c0 : P 6 0 = 0
  · obtain ⟨g, e, c, X'⟩ := X.thr
    have M' := X'.2.1
    have A0 : g.1 40 = aZ 42 (P 6) := M'.2 6 (by omega) (by omega)
    refine ⟨-1000002, h, g, th P, ?_, ?_, X', Gr_eq c (by omega)⟩
    · unfold f_C_better
      rw [cf8 C.1, bd]
      simp only [x0]
      rw [if_pos c0]
    · unfold f_M_better
      rw [e, bd, mg15 M', bd, aldL A0 0 0 rfl (by decide) (by decide), bd]
      simp only [x0]
      rw [if_pos c0]
  · obtain ⟨h1, e1, c1, C1⟩ := c_ifLaden (F := F) (by omega) E C W Z (x := 0) (by omega) (by omega)
    obtain ⟨h2, e2, c2, C2⟩ := c_ifLaden (F := F) (by omega) (c1.es (by omega) E) C1 W Z (x := 1) (by omega) (by omega)
    have hall : Ch 17 31 h h2 := c1.tr c2
    have Wa := Wv_up W (k := 16) (x := 0) (Or.inl ⟨rfl, by omega, by omega⟩)
    have Wb := Wv_up W (k := 16) (x := 1) (Or.inl ⟨rfl, by omega, by omega⟩)
    have ra := mT_r Wa (less := 0) (by omega) (by omega)
    have rb := mT_r Wb (less := 0) (by omega) (by omega)
    obtain ⟨g0, e0, b0, N0⟩ := mr_pf (M.fr hall (by omega)) 0 rfl 0
    obtain ⟨g1, e3, b1, N1⟩ := r_copies (F := F) (by omega) 6 7 (c := 40) (c' := 41) rfl rfl (by omega) (by omega) (by omega) N0 Z I6
    obtain ⟨g2, e4, b2', N2⟩ := mr_st N1 7 (c := 41) (k := 16) rfl (by omega) (by omega) 1 (by omega) (show (16 : Int) < (42 : Nat) by omega)
    have e4' : ast g1 (some 41) 0 (zI 16) (zI 1) = some g2 := e4
    have N2' : Mr g2 (upR (th P) 7 (upI (P 6) 16 1)) := N2.cg (fun j _ => by
      by_cases c : j = 7
      · rw [c]; rfl
      · unfold upR; rw [if_neg c, if_neg c, if_neg c]; rfl)
    obtain ⟨g3, bb, e5, b3, N3, -⟩ := rm_turned hF N2' (c := 41) 7 rfl (Or.inr rfl) Wb (less := 0) (by omega) (by omega)
    have e5 : f_M_turnedOf F (some 34) (some 41) (zI 0) g2 = some (zI (mT (upI (P 6) 16 1) 0), g3) := e5
    obtain ⟨g4, e6, b4, N4⟩ := mr_st N3 7 (c := 41) (k := 16) rfl (by omega) (by omega) 0 (by omega) (show (16 : Int) < (42 : Nat) by omega)
    have e6' : ast g3 (some 41) 0 (zI 16) (zI 0) = some g4 := e6
    have N4' : Mr g4 (upR (upR (th P) 7 (upI (P 6) 16 0)) 12 bb) := N4.cg (fun j _ => by
      by_cases c : j = 7
      · rw [c]
        show upI (upI (P 6) 16 1) 16 0 = upI (P 6) 16 0
        exact upI_upI _ _ _ _
      · by_cases c2 : j = 12
        · rw [c2]; rfl
        · unfold upR; rw [if_neg c, if_neg c2, if_neg c, if_neg c2, if_neg c])
    obtain ⟨g5, bb2, e7, b5, N5, -⟩ := rm_turned hF N4' (c := 41) 7 rfl (Or.inr rfl) Wa (less := 0) (by omega) (by omega)
    have e7 : f_M_turnedOf F (some 34) (some 41) (zI 0) g4 = some (zI (mT (upI (P 6) 16 0) 0), g5) := e7
    have A0 : g0.1 40 = aZ 42 (P 6) := N0.2 6 (by omega) (by omega)
    obtain ⟨ea, hea⟩ : ∃ ea, ea = mT (upI (P 6) 16 0) 0 := ⟨_, rfl⟩
    obtain ⟨eb, heb⟩ : ∃ eb, eb = mT (upI (P 6) 16 1) 0 := ⟨_, rfl⟩
    rw [← hea] at ra e1 e7
    rw [← heb] at rb e2 e5
    have xa : zI ea = (-1000000 : Int32) ↔ ea = -1000000 := zI_eq (b := -1000000) (by omega) (by omega) (by omega) (by omega)
    have xb : zI eb = (-1000000 : Int32) ↔ eb = -1000000 := zI_eq (b := -1000000) (by omega) (by omega) (by omega) (by omega)
    have xab : zI ea = zI eb ↔ ea = eb := zI_eq (by omega) (by omega) (by omega) (by omega)
    have lab : zI ea ≤ zI eb ↔ ea ≤ eb := zI_le (by omega) (by omega) (by omega) (by omega)
    have lba : zI eb ≤ zI ea ↔ eb ≤ ea := zI_le (by omega) (by omega) (by omega) (by omega)
    have ball := b0.tr (b1.tr (b2'.tr (b3.tr (b4.tr b5))))
    refine ⟨if ea = eb then (if ea = -1000000 then 3 else 2) else if ea = -1000000 then 1 else if eb = -1000000 then 0 else if ea ≤ eb then 0 else 1, h2, g5, _, ?_, ?_, J.fin (hall.es (by omega) E) C2 (D.fr hall (by omega)) ?_ ball N5 ⟨⟨rfl, rfl, rfl, rfl, rfl, rfl, rfl, rfl, rfl⟩, rfl, rfl, rfl, rfl, rfl⟩, Gr_2 hall ball (by omega) (by omega)⟩
    · unfold f_C_better b_C_better_51
      rw [cf8 C.1, bd]
      simp only [x0]
      rw [if_neg c0, co_on C.1, show (0 : Int32) = zI 0 from rfl, e1, bd, co_on C1.1, show (1 : Int32) = zI 1 from rfl, e2, bd]
      simp only [xab, xa, xb, lab]
      by_cases q1 : ea = eb
      · rw [if_pos q1, if_pos q1]
        by_cases q2 : ea = -1000000
        · rw [if_pos q2, if_pos q2]
        · rw [if_neg q2, if_neg q2]
      · rw [if_neg q1, if_neg q1]
        by_cases q2 : ea = -1000000
        · rw [if_pos q2, if_pos q2, if_pos q2]
        · rw [if_neg q2, if_neg q2, if_neg q2]
          by_cases q3 : eb = -1000000
          · rw [if_pos q3, if_pos q3]
          · rw [if_neg q3, if_neg q3]
            by_cases q4 : ea ≤ eb
            · rw [if_pos q4, if_pos q4]
            · rw [if_neg q4, if_neg q4]
    · unfold f_M_better b_M_better_76
      rw [show (Value.int (0 : Int32)) = Value.int (zI 0) from rfl, e0, bd, mg15 N0, bd, aldL A0 0 0 rfl (by decide) (by decide), bd]
      simp only [x0]
      rw [if_neg c0, bd, mg16 N0, bd, e3, bd, mg16 N1, bd, show (16 : Int32) = zI 16 from rfl, show (1 : Int32) = zI 1 from rfl, e4', bd, mg16 N2, bd, mr_on N2, show (0 : Int32) = zI 0 from rfl, e5, bd, mg16 N3, bd, e6', bd, mg16 N4, bd, mr_on N4, e7, bd]
      simp only [xa, xb, lab, lba]
      by_cases q1 : ea = eb
      · rw [if_pos q1, ← q1]
        by_cases q2 : ea = -1000000
        · rw [if_pos q2, if_pos q2, if_pos q2, if_pos q2]
        · rw [if_neg q2, if_neg q2, if_neg q2, if_pos (Int.le_refl _), if_pos (Int.le_refl _)]
      · rw [if_neg q1]
        by_cases q2 : ea = -1000000
        · have q3 : ¬ eb = -1000000 := by omega
          rw [if_neg q3, if_pos q2, if_neg q3, if_pos q2]
        · rw [if_neg q2]
          by_cases q3 : eb = -1000000
          · rw [if_pos q3, if_pos q3, if_neg q2, if_pos q3]
          · rw [if_neg q3, if_neg q2, if_neg q3]
            by_cases q4 : ea ≤ eb
            · rw [if_pos q4, if_pos q4, if_neg (by omega), if_neg q2]
            · rw [if_neg q4, if_neg q4, if_neg q2]
    · refine ⟨⟨W, Z, K⟩, I2, I3, I4, I5, ?_⟩
      show Wz (upI (P 6) 16 0)
      intro q hq
      rw [upI_n _ _ (by omega)]
      exact Z q hq
