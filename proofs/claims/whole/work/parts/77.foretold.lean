/-! ===== foretold: turned, way, inches ===== -/
section
variable {F : Nat} {g : MH} {Q : Nat → Nat → Int}
theorem rm_turned (hF : 1000000000000 ≤ F) (M : Mr g Q) {c : Nat} (a : Nat) (hc : c = 34 + a) (ha : a = 6 ∨ a = 7) (W : Wv (Q a)) {less : Int} (hl1 : 0 ≤ less) (hl2 : less ≤ 100) : ∃ g' b', f_M_turnedOf F (some 34) (some c) (zI less) g = some (zI (mT (Q a) less), g') ∧ Ch 34 47 g g' ∧ Mr g' (upR Q 12 b') ∧ ∀ k : Nat, k < 576 → b' k = bS (Q a) less (-1000000) ((Q a 15 + 4) % 8) k := by
  subst hc
  have A : g.1 (34 + a) = aZ 42 (Q a) := by rcases ha with e | e <;> rw [e] <;> exact M.2 _ (by omega) (by omega)
  have B : g.1 46 = aZ 576 (Q 12) := M.2 12 (by omega) (by omega)
  obtain ⟨b', h1, h2⟩ := r_turnedOf (F := F) (K := Q 0) (a := 34 + a) W hF hl1 hl2 (by omega) (by omega) (by omega) M.1 A B
  obtain ⟨c1, M1⟩ := mr_ar M 12 (c := 46) rfl (by omega) (by omega) b'
  exact ⟨_, b', h2, c1, M1, h1⟩
end
theorem vD_less {v : Nat → Int} (W : Wv v) {less : Int} (h : 0 ≤ less) : max 0 (vD v 0 - less) = vD v less := by
  obtain ⟨-, w2, w3, -⟩ := W
  unfold vD
  split <;> omega
/-- the class searches from now -/
theorem c_now {F : Nat} (hF : 1000000 ≤ F) {h : MH} {P : Nat → Nat → Int} (E : Es h) (C : CR h P) (W : Wv (P 6)) {less : Int} (hl1 : 0 ≤ less) (hl2 : less ≤ 100) : ∃ h' R', (∀ x : Option (Int32 × MH), onc h (some 17) 6 x = x) ∧ f_S_minutesToTurn F (some 17) (some 26) (zI (vD (P 6) less)) h = some (zI (mT (P 6) less), h') ∧ Ch 17 25 h h' ∧ Sr h' R' ∧ CR h' P ∧ (less = 0 → R' 0 5 = if mT (P 6) 0 = -1000000 then -1000000 else fO (P 6) (-1000000) ((P 6 15 + 4) % 8)) := by
  obtain ⟨R, S⟩ := C.2.2.2.2.1
  obtain ⟨h', R', e, m, S', hf⟩ := s_toTurn (F := F) W hl1 hl2 hF (a := 26) (by omega) E C.2.2.2.2.2.1.1 S
  refine ⟨h', R', fun x => sr_on S x, e, m.c, S', C.srch m.c ⟨R', S'⟩, fun h0 => ?_⟩
  have := hf h0
  subst h0
  exact this
theorem s_turned {F : Nat} (hF : 1000000000000 ≤ F) (i : Int32) : Ok (f_C_turned F (some 3) i) (f_M_turned F (some 34) i) := by
  intro h P X
  obtain ⟨k, k1, k2, rfl⟩ := i_ex i
  obtain ⟨E, M, C, D, I⟩ := id X
  obtain ⟨⟨W, Z, K⟩, I2, I3, I4, I5, I6⟩ := id I
  have w15 := W.2.2.2.2.2.2.2.1
  have B := C.2.2.2.2.2.1
  have x0 : zI (P 6 0) = (0 : Int32) ↔ P 6 0 = 0 := zI_eq (b := 0) (by omega) (by omega) (by omega) (by omega)
  have xk : zI k = (0 : Int32) ↔ k = 0 := zI_eq (b := 0) (by omega) (by omega) (by omega) (by omega)
  have hw : f_C_within (zI k) (2 : Int32) = 0 ↔ ¬ (0 ≤ k ∧ k < 2) := s_within0 (b := 2) k1 k2 (by omega) (by omega)
  have hin : f_M_in (zI k) (0 : Int32) (1 : Int32) = 0 ↔ ¬ (0 ≤ k ∧ k < 2) := by
    rw [show f_M_in (zI k) (0 : Int32) (1 : Int32) = if 0 ≤ k ∧ k ≤ 1 then 1 else 0 from s_M_in (a := 0) (b := 1) k1 k2 (by omega) (by omega) (by omega) (by omega), ite_01]
    omega
  by_cases cb : P 6 0 ≠ 0 ∧ (0 ≤ k ∧ k < 2)
  · obtain ⟨c0, ck⟩ := cb
    obtain ⟨h1, R1, on, e1, c1, S1, C1, hff⟩ := c_now (F := F) (by omega) E C W (less := 0) (by omega) (by omega)
    have hr := mT_r W (less := 0) (by omega) (by omega)
    have xm : zI (mT (P 6) 0) = (-1000000 : Int32) ↔ mT (P 6) 0 = -1000000 := zI_eq (b := -1000000) (by omega) (by omega) (by omega) (by omega)
    have hsink := s_B_sinks B.1.1 W
    obtain ⟨g0, e0, b0, N0⟩ := mr_pf (M.fr c1 (by omega)) 0 rfl 0
    obtain ⟨g1, b', e2, b2, N1, hb⟩ := rm_turned hF N0 (c := 40) 6 rfl (Or.inl rfl) W (less := 0) (by omega) (by omega)
    have e2 : f_M_turnedOf F (some 34) (some 40) (zI 0) g0 = some (zI (mT (P 6) 0), g1) := e2
    have hfo : f_M_firstOf F (some 34) (some 40) g1 = some (zI (fO (P 6) (-1000000) ((P 6 15 + 4) % 8)), g1) := r_firstOf (F := F) W (by omega) (by omega) (Or.inl rfl) (by omega) N1.1 (N1.2 6 (by omega) (by omega)) (N1.2 12 (by omega) (by omega)) hb
    have A0 : g0.1 40 = aZ 42 (P 6) := N0.2 6 (by omega) (by omega)
    refine ⟨zI (if k = 0 then mT (P 6) 0 else if mT (P 6) 0 = -1000000 then -1000000 else fO (P 6) (-1000000) ((P 6 15 + 4) % 8)), h1, g1, _, ?_, ?_, J.fin (c1.es (by omega) E) C1 (D.fr c1 (by omega)) ?_ (b0.tr b2) N1 ⟨⟨rfl, rfl, rfl, rfl, rfl, rfl, rfl, rfl, rfl⟩, rfl, rfl, rfl, rfl, rfl⟩, Gr_2 c1 (b0.tr b2) (by omega) (by omega)⟩
    · unfold f_C_turned
      rw [cf8 C.1, bd]
      simp only [x0, hw]
      rw [if_neg c0, if_neg (show ¬ ¬ (0 ≤ k ∧ k < 2) from fun z => z ck), cg3 C.1, bd, cg4 C.1, bd, bd, b_on B.1.1, hsink, bd, on, e1, bd]
      simp only [xk]
      by_cases ck0 : k = 0
      · rw [if_pos ck0, if_pos ck0]
      · rw [if_neg ck0, if_neg ck0, cg3 C1.1, bd, sg13 S1, bd, hff rfl]
    · unfold f_M_turned
      rw [show (Value.int (0 : Int32)) = Value.int (zI 0) from rfl, e0, bd, mg15 N0, bd, aldL A0 0 0 rfl (by decide) (by decide), bd]
      simp only [x0, hin]
      rw [if_neg c0, if_neg (show ¬ ¬ (0 ≤ k ∧ k < 2) from fun z => z ck), bd, mr_on N0, show (0 : Int32) = zI 0 from rfl, e2, bd]
      rw [show zI 0 = (0 : Int32) from rfl]
      simp only [xm, xk]
      by_cases cm : mT (P 6) 0 = -1000000
      · rw [if_pos cm, cm]
        by_cases ck0 : k = 0
        · rw [if_pos ck0]
        · rw [if_neg ck0, if_pos rfl]
      · rw [if_neg cm]
        by_cases ck0 : k = 0
        · rw [if_pos ck0, if_pos ck0]
        · rw [if_neg ck0, if_neg ck0, if_neg cm, mg15 N1, bd, mr_on N1, hfo, bd]
    · exact I
  · obtain ⟨g, e, c, X'⟩ := X.thr
    have M' := X'.2.1
    have A0 : g.1 40 = aZ 42 (P 6) := M'.2 6 (by omega) (by omega)
    refine ⟨if P 6 0 = 0 then -1000002 else -1000001, h, g, th P, ?_, ?_, X', Gr_eq c (by omega)⟩
    · unfold f_C_turned
      rw [cf8 C.1, bd]
      simp only [x0, hw]
      by_cases c0 : P 6 0 = 0
      · rw [if_pos c0, if_pos c0]
      · rw [if_neg c0, if_neg c0, if_pos (fun z => cb ⟨c0, z⟩)]
    · unfold f_M_turned
      rw [e, bd, mg15 M', bd, aldL A0 0 0 rfl (by decide) (by decide), bd]
      simp only [x0, hin]
      by_cases c0 : P 6 0 = 0
      · rw [if_pos c0, if_pos c0]
      · rw [if_neg c0, if_neg c0, if_pos (fun z => cb ⟨c0, z⟩)]
theorem s_wayC {F : Nat} (hF : 1000000000000 ≤ F) (i1 i2 i3 : Int32) : Ok (f_C_way F (some 3) i1 i2 i3) (f_M_way F (some 34) i1 i2 i3) := by
  intro h P X
  obtain ⟨c, c1', c2', rfl⟩ := i_ex i1
  obtain ⟨t, t1', t2', rfl⟩ := i_ex i2
  obtain ⟨k, k1, k2, rfl⟩ := i_ex i3
  obtain ⟨E, M, C, D, I⟩ := id X
  obtain ⟨⟨W, Z, K⟩, I2, I3, I4, I5, I6⟩ := id I
  have B := C.2.2.2.2.2.1
  have x0 : zI (P 6 0) = (0 : Int32) ↔ P 6 0 = 0 := zI_eq (b := 0) (by omega) (by omega) (by omega) (by omega)
  have xk : zI k = (0 : Int32) ↔ k = 0 := zI_eq (b := 0) (by omega) (by omega) (by omega) (by omega)
  have hwc : f_C_within (zI c) (24 : Int32) = 0 ↔ ¬ (0 ≤ c ∧ c < 24) := s_within0 (b := 24) c1' c2' (by omega) (by omega)
  have hwt : f_C_within (zI t) (8 : Int32) = 0 ↔ ¬ (0 ≤ t ∧ t < 8) := s_within0 (b := 8) t1' t2' (by omega) (by omega)
  have hwk : f_C_within (zI k) (2 : Int32) = 0 ↔ ¬ (0 ≤ k ∧ k < 2) := s_within0 (b := 2) k1 k2 (by omega) (by omega)
  have hic : f_M_in (zI c) (0 : Int32) (23 : Int32) = 0 ↔ ¬ (0 ≤ c ∧ c < 24) := by
    rw [show f_M_in (zI c) (0 : Int32) (23 : Int32) = if 0 ≤ c ∧ c ≤ 23 then 1 else 0 from s_M_in (a := 0) (b := 23) c1' c2' (by omega) (by omega) (by omega) (by omega), ite_01]
    omega
  have hit : f_M_in (zI t) (0 : Int32) (7 : Int32) = 0 ↔ ¬ (0 ≤ t ∧ t < 8) := by
    rw [show f_M_in (zI t) (0 : Int32) (7 : Int32) = if 0 ≤ t ∧ t ≤ 7 then 1 else 0 from s_M_in (a := 0) (b := 7) t1' t2' (by omega) (by omega) (by omega) (by omega), ite_01]
    omega
  have hik : f_M_in (zI k) (0 : Int32) (1 : Int32) = 0 ↔ ¬ (0 ≤ k ∧ k < 2) := by
    rw [show f_M_in (zI k) (0 : Int32) (1 : Int32) = if 0 ≤ k ∧ k ≤ 1 then 1 else 0 from s_M_in (a := 0) (b := 1) k1 k2 (by omega) (by omega) (by omega) (by omega), ite_01]
    omega
  by_cases cb : P 6 0 ≠ 0 ∧ (0 ≤ c ∧ c < 24) ∧ (0 ≤ t ∧ t < 8) ∧ (0 ≤ k ∧ k < 2)
  · obtain ⟨c0, cc, ct, ck⟩ := cb
    obtain ⟨R, S⟩ := C.2.2.2.2.1
    obtain ⟨h1, R1, M1, e1, m1, S1, X1, z1⟩ := s_explore (F := F) W (less := 0) (by omega) (by omega) (en := -1) (by omega) (a := 26) (by omega) E B.1 S
    have hM := z1 rfl
    subst hM
    obtain ⟨h2, R2, e2, m2, S2, f4, f5⟩ := s_seekWay (F := F) W (by omega) cc ct S1 X1
    have c12 : Ch 17 25 h h2 := m1.c.tr m2.c
    have C1 := C.srch m1.c ⟨R1, S1⟩
    have C2 := C.srch c12 ⟨R2, S2⟩
    have hr := mV_r W (less := 0) (cell := c) (turn := t) (by omega) (by omega) (Or.inr cc) ct
    have xm : zI (mV (P 6) 0 c t) = (-1000000 : Int32) ↔ mV (P 6) 0 c t = -1000000 := zI_eq (b := -1000000) (by omega) (by omega) (by omega) (by omega)
    have hsink := s_B_sinks B.1.1 W
    obtain ⟨g0, e0, b0, N0⟩ := mr_pf (M.fr c12 (by omega)) 0 rfl 0
    obtain ⟨b', hb, e3⟩ := r_solves (F := F) (K := upR P 0 (upI (P 0) 0 0) 0) (a := 40) W hF (less := 0) (by omega) (by omega) (by omega) (by omega) (by omega) (Or.inr cc) ct N0.1 (N0.2 6 (by omega) (by omega)) (N0.2 12 (by omega) (by omega))
    obtain ⟨d1, N1⟩ := mr_ar N0 12 (c := 46) rfl (by omega) (by omega) b'
    obtain ⟨g1, hg1⟩ : ∃ g1, g1 = mj_up g0 46 (aZ 576 b') := ⟨_, rfl⟩
    have d1 : Ch 34 47 g0 g1 := by rw [hg1]; exact d1
    have N1 : Mr g1 (upR (th P) 12 b') := by rw [hg1]; exact N1
    rw [← hg1] at e3
    have hfo : f_M_firstOf F (some 34) (some 40) g1 = some (zI (fO (P 6) c t), g1) := r_firstOf (F := F) W (by omega) (by omega) (Or.inr cc) ct N1.1 (N1.2 6 (by omega) (by omega)) (N1.2 12 (by omega) (by omega)) hb
    have A0 : g0.1 40 = aZ 42 (P 6) := N0.2 6 (by omega) (by omega)
    refine ⟨zI (if k = 0 then mV (P 6) 0 c t else if mV (P 6) 0 c t = -1000000 then -1000000 else fO (P 6) c t), h2, g1, _, ?_, ?_, J.fin (c12.es (by omega) E) C2 (D.fr c12 (by omega)) ?_ (b0.tr d1) N1 ⟨⟨rfl, rfl, rfl, rfl, rfl, rfl, rfl, rfl, rfl⟩, rfl, rfl, rfl, rfl, rfl⟩, Gr_2 c12 (b0.tr d1) (by omega) (by omega)⟩
    · unfold f_C_way
      rw [cf8 C.1, bd]
      simp only [x0, hwc, hwt, hwk]
      rw [if_neg c0, if_neg (show ¬ ¬ (0 ≤ c ∧ c < 24) from fun z => z cc), if_neg (show ¬ ¬ (0 ≤ t ∧ t < 8) from fun z => z ct), if_neg (show ¬ ¬ (0 ≤ k ∧ k < 2) from fun z => z ck), cg3 C.1, bd, cg4 C.1, bd, bd, b_on B.1.1, hsink, bd, sr_on S, lm1, e1, bd, cg3 C1.1, bd, sr_on S1, e2, bd]
      simp only [xk]
      by_cases ck0 : k = 0
      · rw [if_pos ck0, if_pos ck0, cg3 C2.1, bd, sg12 S2, bd, f4]
      · rw [if_neg ck0, if_neg ck0, cg3 C2.1, bd, sg13 S2, bd, f5]
    · unfold f_M_way
      rw [show (Value.int (0 : Int32)) = Value.int (zI 0) from rfl, e0, bd, mg15 N0, bd, aldL A0 0 0 rfl (by decide) (by decide), bd]
      simp only [x0, hic, hit, hik]
      rw [if_neg c0, if_neg (show ¬ ¬ (0 ≤ c ∧ c < 24) from fun z => z cc), if_neg (show ¬ ¬ (0 ≤ t ∧ t < 8) from fun z => z ct), if_neg (show ¬ ¬ (0 ≤ k ∧ k < 2) from fun z => z ck), bd, mr_on N0, show (0 : Int32) = zI 0 from rfl, e3, bd]
      rw [show zI 0 = (0 : Int32) from rfl]
      simp only [xm, xk]
      by_cases cm : mV (P 6) 0 c t = -1000000
      · rw [if_pos cm, cm]
        by_cases ck0 : k = 0
        · rw [if_pos ck0]
        · rw [if_neg ck0, if_pos rfl]
      · rw [if_neg cm]
        by_cases ck0 : k = 0
        · rw [if_pos ck0, if_pos ck0]
        · rw [if_neg ck0, if_neg ck0, if_neg cm, mg15 N1, bd, mr_on N1, hfo, bd]
    · exact I
  · obtain ⟨g, e, c', X'⟩ := X.thr
    have M' := X'.2.1
    have A0 : g.1 40 = aZ 42 (P 6) := M'.2 6 (by omega) (by omega)
    refine ⟨if P 6 0 = 0 then -1000002 else -1000001, h, g, th P, ?_, ?_, X', Gr_eq c' (by omega)⟩
    · unfold f_C_way
      rw [cf8 C.1, bd]
      simp only [x0, hwc, hwt, hwk]
      by_cases c0 : P 6 0 = 0
      · rw [if_pos c0, if_pos c0]
      · rw [if_neg c0, if_neg c0]
        by_cases cc : 0 ≤ c ∧ c < 24
        · rw [if_neg (show ¬ ¬ (0 ≤ c ∧ c < 24) from fun z => z cc)]
          by_cases ct : 0 ≤ t ∧ t < 8
          · rw [if_neg (show ¬ ¬ (0 ≤ t ∧ t < 8) from fun z => z ct), if_pos (fun z => cb ⟨c0, cc, ct, z⟩)]
          · rw [if_pos ct]
        · rw [if_pos cc]
    · unfold f_M_way
      rw [e, bd, mg15 M', bd, aldL A0 0 0 rfl (by decide) (by decide), bd]
      simp only [x0, hic, hit, hik]
      by_cases c0 : P 6 0 = 0
      · rw [if_pos c0, if_pos c0]
      · rw [if_neg c0, if_neg c0]
        by_cases cc : 0 ≤ c ∧ c < 24
        · rw [if_neg (show ¬ ¬ (0 ≤ c ∧ c < 24) from fun z => z cc)]
          by_cases ct : 0 ≤ t ∧ t < 8
          · rw [if_neg (show ¬ ¬ (0 ≤ t ∧ t < 8) from fun z => z ct), if_pos (fun z => cb ⟨c0, cc, ct, z⟩)]
          · rw [if_pos ct]
        · rw [if_pos cc]
/-! inches -/
noncomputable def incV (v : Nat → Int) : Nat → Int → Int
  | 0, _ => -1000000
  | d + 1, k => if mT v k = -1000000 then incV v d (k + 1) else k
theorem c_inches {F : Nat} (hF : 1000000 ≤ F) {P : Nat → Nat → Int} (W : Wv (P 6)) : ∀ (d k fu : Nat) (h : MH), k + d = 6 → d < fu → Es h → CR h P → ∃ h', b_C_inches_12 F fu (some 3) (zI k) h = some (zI (incV (P 6) d k), h') ∧ Ch 17 25 h h' ∧ CR h' P := by
  intro d
  induction d with
  | zero =>
    intro k fu h hk hf E C
    obtain ⟨fu, rfl⟩ : ∃ q, fu = q + 1 := ⟨fu - 1, by omega⟩
    refine ⟨h, ?_, Ch_0 _ _ h, C⟩
    unfold b_C_inches_12 incV
    simp (disch := omega) only [l5, zI_lt]
    rw [if_pos (by omega)]
    rfl
  | succ d ih =>
    intro k fu h hk hf E C
    obtain ⟨fu, rfl⟩ : ∃ q, fu = q + 1 := ⟨fu - 1, by omega⟩
    have B := C.2.2.2.2.2.1
    have hd := vD_r W (less := 0) (by omega)
    obtain ⟨h1, R1, on, e1, c1, S1, C1, -⟩ := c_now (F := F) hF E C W (less := (k : Int)) (by omega) (by omega)
    have hr := mT_r W (less := (k : Int)) (by omega) (by omega)
    have xm : zI (mT (P 6) k) = (-1000000 : Int32) ↔ mT (P 6) k = -1000000 := zI_eq (b := -1000000) (by omega) (by omega) (by omega) (by omega)
    have x5 : (5 : Int32) < zI (k : Int) ↔ 5 < (k : Int) := zI_lt (a := 5) (by omega) (by omega) (by omega) (by omega)
    have hu : b_C_inches_12 F (fu + 1) (some 3) (zI k) h = if mT (P 6) k = -1000000 then b_C_inches_12 F fu (some 3) (zI ((k + 1 : Nat) : Int)) h1 else some (zI k, h1) := by
      conv => lhs; unfold b_C_inches_12
      simp only [x5]
      rw [if_neg (show ¬ 5 < (k : Int) by omega), cg3 C.1, bd, cg4 C.1, bd, bd, b_on B.1.1, s_B_sinks B.1.1 W, bd, on, zI_sub, l0, zI_max (by omega) (by omega) (by omega) (by omega), vD_less W (by omega), e1, bd]
      simp only [xm]
      rw [l1, zI_add]
      rfl
    rw [hu]
    unfold incV
    by_cases cm : mT (P 6) k = -1000000
    · rw [if_pos cm, if_pos cm]
      obtain ⟨h2, e2, c2, C2⟩ := ih (k + 1) fu h1 (by omega) (by omega) (c1.es (by omega) E) C1
      exact ⟨h2, e2, c1.tr c2, C2⟩
    · rw [if_neg cm, if_neg cm]
      exact ⟨h1, rfl, c1, C1⟩
theorem m_inches {F : Nat} (hF : 1000000000000 ≤ F) {v : Nat → Int} (W : Wv v) : ∀ (d k fu : Nat) (g : MH) (Q : Nat → Nat → Int), k + d = 6 → d < fu → Mr g Q → Q 6 = v → ∃ g' b', b_M_inches_19 F fu (some 34) (zI k) g = some (zI (incV v d k), g') ∧ Ch 34 47 g g' ∧ Mr g' (upR Q 12 b') := by
  intro d
  induction d with
  | zero =>
    intro k fu g Q hk hf M hQ
    obtain ⟨fu, rfl⟩ : ∃ q, fu = q + 1 := ⟨fu - 1, by omega⟩
    refine ⟨g, Q 12, ?_, Ch_0 _ _ g, M.cg (fun j _ => ?_)⟩
    · unfold b_M_inches_19 incV
      simp (disch := omega) only [l6, zI_le]
      rw [if_pos (by omega)]
      rfl
    · unfold upR
      by_cases c : j = 12
      · rw [if_pos c, c]
      · rw [if_neg c]
  | succ d ih =>
    intro k fu g Q hk hf M hQ
    obtain ⟨fu, rfl⟩ : ∃ q, fu = q + 1 := ⟨fu - 1, by omega⟩
    have hr := mT_r W (less := (k : Int)) (by omega) (by omega)
    have xm : zI (mT v k) = (-1000000 : Int32) ↔ mT v k = -1000000 := zI_eq (b := -1000000) (by omega) (by omega) (by omega) (by omega)
    have x6 : (6 : Int32) ≤ zI (k : Int) ↔ 6 ≤ (k : Int) := zI_le (a := 6) (by omega) (by omega) (by omega) (by omega)
    obtain ⟨g1, b', e2, b2, N1, hb⟩ := rm_turned hF M (c := 40) 6 rfl (Or.inl rfl) (by rw [hQ]; exact W) (less := (k : Int)) (by omega) (by omega)
    rw [hQ] at e2
    have hu : b_M_inches_19 F (fu + 1) (some 34) (zI k) g = if mT v k = -1000000 then b_M_inches_19 F fu (some 34) (zI ((k + 1 : Nat) : Int)) g1 else some (zI k, g1) := by
      conv => lhs; unfold b_M_inches_19
      simp only [x6]
      rw [if_neg (show ¬ 6 ≤ (k : Int) by omega), mg15 M, bd, mr_on M, e2, bd]
      simp only [xm]
      rw [l1, zI_add]
      rfl
    rw [hu]
    unfold incV
    by_cases cm : mT v k = -1000000
    · rw [if_pos cm, if_pos cm]
      obtain ⟨g2, b2', e3, c3, N2⟩ := ih (k + 1) fu g1 _ (by omega) (by omega) N1 hQ
      refine ⟨g2, b2', e3, b2.tr c3, N2.cg (fun j _ => ?_)⟩
      unfold upR
      by_cases c : j = 12
      · rw [if_pos c, if_pos c]
      · rw [if_neg c, if_neg c, if_neg c]
    · rw [if_neg cm, if_neg cm]
      exact ⟨g1, b', rfl, b2, N1⟩
theorem s_inches {F : Nat} (hF : 1000000000000 ≤ F) : Ok (f_C_inches F (some 3)) (f_M_inches F (some 34)) := by
  intro h P X
  obtain ⟨E, M, C, D, I⟩ := id X
  obtain ⟨⟨W, Z, K⟩, I2, I3, I4, I5, I6⟩ := id I
  have x0 : zI (P 6 0) = (0 : Int32) ↔ P 6 0 = 0 := zI_eq (b := 0) (by omega) (by omega) (by omega) (by omega)
  by_cases c0 : P 6 0 = 0
  · obtain ⟨g, e, c, X'⟩ := X.thr
    have M' := X'.2.1
    have A0 : g.1 40 = aZ 42 (P 6) := M'.2 6 (by omega) (by omega)
    refine ⟨-1000002, h, g, th P, ?_, ?_, X', Gr_eq c (by omega)⟩
    · unfold f_C_inches
      rw [cf8 C.1, bd]
      simp only [x0]
      rw [if_pos c0]
    · unfold f_M_inches
      rw [e, bd, mg15 M', bd, aldL A0 0 0 rfl (by decide) (by decide), bd]
      simp only [x0]
      rw [if_pos c0]
  · obtain ⟨h1, e1, c1, C1⟩ := c_inches (F := F) (by omega) W 6 0 F h rfl (by omega) E C
    obtain ⟨g0, e0, b0, N0⟩ := mr_pf (M.fr c1 (by omega)) 0 rfl 0
    obtain ⟨g1, b', e2, b2, N1⟩ := m_inches hF W 6 0 F g0 _ rfl (by omega) N0 rfl
    have A0 : g0.1 40 = aZ 42 (P 6) := N0.2 6 (by omega) (by omega)
    refine ⟨zI (incV (P 6) 6 ((0 : Nat) : Int)), h1, g1, _, ?_, ?_, J.fin (c1.es (by omega) E) C1 (D.fr c1 (by omega)) ?_ (b0.tr b2) N1 ⟨⟨rfl, rfl, rfl, rfl, rfl, rfl, rfl, rfl, rfl⟩, rfl, rfl, rfl, rfl, rfl⟩, Gr_2 c1 (b0.tr b2) (by omega) (by omega)⟩
    · unfold f_C_inches
      rw [cf8 C.1, bd]
      simp only [x0]
      rw [if_neg c0, l0]
      exact e1
    · unfold f_M_inches
      rw [show (Value.int (0 : Int32)) = Value.int (zI 0) from rfl, e0, bd, mg15 N0, bd, aldL A0 0 0 rfl (by decide) (by decide), bd]
      simp only [x0]
      rw [if_neg c0, l0]
      exact e2
    · exact I
