/-! ===== basin ===== -/
theorem Hk_q {k : Nat} {h h' : MH} (f : Fq k h h') (D : Dn h) : Hk h h' := by
  intro p hp ⟨s, n, mi, e⟩
  have hlt : p < h.2.1 := by
    by_cases c : p < h.2.1
    · exact c
    · have := D.2 p (by omega)
      rw [e] at this
      exact absurd this hC_nil
  exact f.2.2.1 p hlt (by omega) (by omega) (by omega) (by omega)
theorem bO_nil {v : Nat → Int} {a : Nat} : bO v a ≠ mj_nil := by
  intro e
  have z : (11 : Nat) = 0 := congrArg (fun c : MC => match c with
    | .inr (.inr q) => q.2.length
    | _ => 0) e
  omega
theorem CR.told {h h' : MH} {P : Nat → Nat → Int} (X : CR h P) (D : Dn h) {k : Nat} (f : Fq k h h') (T29 : Tb h' 29) {Q : Nat → Nat → Int} (T : TO h' (Q 1) (Q 0 2) (Q 0 9)) (hq : (Q 6 = P 6 ∧ Q 2 = P 2 ∧ Q 3 = P 3 ∧ Q 4 = P 4 ∧ Q 8 = P 8 ∧ Q 9 = P 9 ∧ Q 10 = P 10 ∧ Q 11 = P 11) ∧ Q 0 13 = P 0 13 ∧ Q 0 18 = P 0 18 ∧ Q 0 22 = P 0 22) : CR h' Q := by
  have hk := Hk_q f D
  have D48 := D.1
  have s : ∀ j, j < 48 → j ≠ 8 → j ≠ 29 → j ≠ 30 → j ≠ 31 → h'.1 j = h.1 j := fun j q1 q2 q3 q4 q5 => f.2.2.1 j (by omega) q2 q3 q4 q5
  obtain ⟨x1, x2, x3, x4, x5, x6, x7, x8, x9⟩ := X
  obtain ⟨⟨s6, s2, s3, s4, s8, s9, s10, s11⟩, t13, t18, t22⟩ := hq
  unfold CR
  rw [s6, s2, s3, s4, s8, s9, s10, s11, t13, t18, t22]
  refine ⟨(s 3 (by omega) (by omega) (by omega) (by omega) (by omega)).trans x1, ?_, T, ?_, ?_, x6.fr hk (s _ (by omega) (by omega) (by omega) (by omega) (by omega)) (s _ (by omega) (by omega) (by omega) (by omega) (by omega)) (s _ (by omega) (by omega) (by omega) (by omega) (by omega)), T29, ?_, ?_⟩
  · obtain ⟨a, b, d, y1, y2, y3, y4, y5⟩ := x2
    exact ⟨a, b, d, (s _ (by omega) (by omega) (by omega) (by omega) (by omega)).trans y1, (s _ (by omega) (by omega) (by omega) (by omega) (by omega)).trans y2, (s _ (by omega) (by omega) (by omega) (by omega) (by omega)).trans y3, (s _ (by omega) (by omega) (by omega) (by omega) (by omega)).trans y4, y5⟩
  · obtain ⟨A, nx, y1, y2, y3⟩ := x4
    exact ⟨A, nx, (s _ (by omega) (by omega) (by omega) (by omega) (by omega)).trans y1, fun a ha => (s _ (by omega) (by omega) (by omega) (by omega) (by omega)).trans (y2 a ha), y3⟩
  · obtain ⟨R, y1, y2⟩ := x5
    exact ⟨R, (s _ (by omega) (by omega) (by omega) (by omega) (by omega)).trans y1, fun a a1 a2 => (s _ (by omega) (by omega) (by omega) (by omega) (by omega)).trans (y2 a a1 a2)⟩
  · obtain ⟨gi, y1, y2, y3⟩ := x8
    refine ⟨gi, (s _ (by omega) (by omega) (by omega) (by omega) (by omega)).trans y1, fun k hk2 => ?_, y3⟩
    rcases y2 k hk2 with y | ⟨y, p, p1, p2, p3, p4⟩
    · exact Or.inl y
    · have nn : ∀ q, p ≤ q → h.1 q ≠ mj_nil → h'.1 q = h.1 q := by
        intro q hq hne
        refine f.2.2.1 q ?_ (by omega) (by omega) (by omega) (by omega)
        by_cases c : q < h.2.1
        · exact c
        · exact absurd (D.2 q (by omega)) hne
      have n0 : h.1 p ≠ mj_nil := by rw [p3.1.1]; exact bO_nil
      have n1 : h.1 (p + 1) ≠ mj_nil := by
        rw [p3.1.2.1]
        intro z
        cases z
      have n2 : h.1 (p + 2) ≠ mj_nil := by
        obtain ⟨-, -, g, z1, -⟩ := p3.1
        rw [z1]
        intro z
        cases z
      exact Or.inr ⟨y, p, p1, p2, p3.fr hk (nn p (by omega) n0) (nn (p + 1) (by omega) n1) (nn (p + 2) (by omega) n2), p4⟩
  · obtain ⟨tc, y1, y2⟩ := x9
    exact ⟨tc, (s _ (by omega) (by omega) (by omega) (by omega) (by omega)).trans y1, y2⟩
theorem m_17 {F : Nat} : ∀ (d k fu : Nat) (g : MH) (Q : Nat → Nat → Int), k + d = 42 → d < fu → Mr g Q → Wz (Q 5) → (∀ j, j < k → Q 5 j = 0) → ∃ g' fu', b_M_basin_17 F fu (some 34) (zI (k : Int)) g = b_M_basin_17 F (fu' + 1) (some 34) (zI 42) g' ∧ Ch 34 47 g g' ∧ Mr g' (upR Q 5 (fun _ => 0)) := by
  intro d
  induction d with
  | zero =>
    intro k fu g Q hk hf M Z hz
    obtain ⟨fu, rfl⟩ : ∃ q, fu = q + 1 := ⟨fu - 1, by omega⟩
    have h42 : k = 42 := by omega
    subst h42
    refine ⟨g, fu, rfl, Ch_0 _ _ g, M.cg (fun j _ => ?_)⟩
    unfold upR
    by_cases c : j = 5
    · rw [if_pos c, c]
      funext q
      by_cases c2 : q < 42
      · exact hz q c2
      · exact Z q (by omega)
    · rw [if_neg c]
  | succ d ih =>
    intro k fu g Q hk hf M Z hz
    obtain ⟨fu, rfl⟩ : ∃ q, fu = q + 1 := ⟨fu - 1, by omega⟩
    have x42 : (42 : Int32) ≤ zI (k : Int) ↔ 42 ≤ (k : Int) := zI_le (a := 42) (by omega) (by omega) (by omega) (by omega)
    obtain ⟨g1, e1, c1, M1⟩ := mr_st M 5 (c := 39) (k := (k : Int)) rfl (by omega) (by omega) 0 (by omega) (show (k : Int) < (42 : Nat) by omega)
    rw [Int.toNat_natCast] at M1
    obtain ⟨g2, fu', e2, c2, M2⟩ := ih (k + 1) fu g1 _ (by omega) (by omega) M1 (fun q hq => by
      show upI (Q 5) k 0 q = 0
      rw [upI_n _ _ (by omega)]
      exact Z q hq) (fun j hj => by
      show upI (Q 5) k 0 j = 0
      by_cases c : j = k
      · rw [c, upI_s]
      · rw [upI_n _ _ c]
        exact hz j (by omega))
    refine ⟨g2, fu', ?_, c1.tr c2, M2.cg (fun j _ => ?_)⟩
    · rw [← e2]
      conv => lhs; unfold b_M_basin_17
      simp only [x42]
      rw [if_neg (by omega), mg14 M, bd, show ast g (some 39) 0 (zI (k : Int)) (0 : Int32) = some g1 from e1, bd, l1, zI_add]
      rfl
    · unfold upR
      by_cases c : j = 5
      · rw [if_pos c, if_pos c]
      · rw [if_neg c, if_neg c, if_neg c]
/-- the reference goes over the text -/
theorem m_basin {F : Nat} (hF : 10000 ≤ F) {tp : Nat → Int} {n : Int} (hn : 0 ≤ n ∧ n ≤ 120) (ht : ∀ k : Nat, (k : Int) < n → 0 ≤ tp k ∧ tp k ≤ 255) {g0 g : MH} {Q : Nat → Nat → Int} (e0 : pfv g0 (some 34) [11] 0 (.int (zI 0)) = some g) (M : Mr g Q) (h1 : Q 1 = tp) (h2 : Q 0 2 = n) (Z : Wz (Q 5)) : ∃ g12 Q12, Ch 34 47 g g12 ∧ Mr g12 Q12 ∧ (∀ j, j ≠ 0 → j ≠ 5 → Q12 j = Q j) ∧ (∀ j, (j < 2 ∨ 8 < j) → Q12 0 j = Q 0 j) ∧ Q12 0 2 = 0 ∧ Wz (Q12 5) ∧ MR (Lt tp n) n Q12 (pAll (Lt tp n)) ∧ (∀ v p, pAll (Lt tp n) = .ok (v, p) → Q12 5 = v) ∧
    f_M_basin F (some 34) g0 = if Q12 0 7 = 0 then (Option.bind (f_M_copies F (some 39) (some 40) g12) fun h27 =>
        Option.bind (pfv h27 (some 34) [11] 18 (.int (0 : Int32))) fun h29 =>
        Option.bind (gfr h29 (some 34) [11] 15) fun x31 =>
        Option.bind (ald h29 x31 0 (4 : Int32)) fun x33 =>
        some (x33, h29)) else (Option.bind (pfv g12 (some 34) [11] 9 (.int (zI (Q12 0 7)))) fun h19 =>
        Option.bind (gfi h19 (some 34) [11] 8) fun x21 =>
        some (((-1000100 : Int32) - x21), h19)) := by
  obtain ⟨g1, e1, c1, M1⟩ := mr_pf M 7 rfl 0
  obtain ⟨g2, e2, c2, M2⟩ := mr_pf M1 3 rfl 0
  obtain ⟨g3, fu', e3, c3, M3⟩ := m_17 (F := F) 42 0 F g2 _ rfl (by omega) M2 Z (fun j hj => absurd hj (by omega))
  obtain ⟨g4, e4, c4, M4⟩ := mr_st M3 5 (c := 39) (k := 0) rfl (by omega) (by omega) 1 (by omega) (show (0 : Int) < (42 : Nat) by omega)
  obtain ⟨g5, Q5, e5, c5, M5, a5, b5, A5⟩ := m_adv (F := F) (tp := tp) (n := n) (by omega) hn ht M4 h1 h2 (q := 0) rfl (by omega)
  have q5 : Q5 5 = vz := by
    rw [a5.1 5 (by decide)]
    rfl
  have X5 : MM g5 tp n Q5 (.ok (vz, 0)) := by
    refine ⟨M5, (a5.1 1 (by decide)).trans h1, (a5.2 2 (by omega)).trans h2, ?_, ⟨by rw [a5.2 7 (by omega)]; rfl, b5, by omega, A5⟩, fun v p z => by cases z; exact q5⟩
    rw [q5]
    exact vz_Q.2.1
  obtain ⟨g6, Q6, e6, c6, a6, X6⟩ := q_head (F := F) (by omega) hn ht X5
  have hQ := PQ_head (L := Lt tp n) (S := .ok (vz, 0)) (fun w r hr => by cases hr; exact vz_Q)
  obtain ⟨g7, Q7, e7, c7, a7, X7⟩ := q_rest (F := F) (by omega) hn ht 120 F g6 Q6 _ (fun v p z => ⟨(hQ v p z).wp, by omega⟩) (by omega) X6
  have X7 : MM g7 tp n Q7 (pAll (Lt tp n)) := X7
  obtain ⟨M7, t1, t2, Z7, R7, V7⟩ := X7
  obtain ⟨g8, e8, c8, M8⟩ := mr_pf M7 2 rfl 0
  have hR8 : MR (Lt tp n) n (upR Q7 0 (upI (Q7 0) 2 0)) (pAll (Lt tp n)) := by
    cases hP : pAll (Lt tp n) with
    | ok vp => rw [hP] at R7; exact R7
    | error e => rw [hP] at R7; exact R7
  have hr7 : 0 ≤ Q7 0 7 ∧ Q7 0 7 ≤ 3 := by
    cases hP : pAll (Lt tp n) with
    | ok vp =>
      rw [hP] at R7
      have := R7.1
      omega
    | error e =>
      rw [hP] at R7
      obtain ⟨r1, r2, r3, r4⟩ := R7
      rw [r1]
      omega
  have hwell : f_M_isWell (some 34) g8 = some (if Q7 0 7 = 0 then 1 else 0) := m_well (Q := upR Q7 0 (upI (Q7 0) 2 0)) M8 hr7
  have mg57 : Mg Q5 Q7 := a6.tr a7
  refine ⟨g8, _, c1.tr (c2.tr (c3.tr (c4.tr (c5.tr (c6.tr (c7.tr c8)))))), M8, fun j z1 z2 => ?_, fun j z1 => ?_, rfl, Z7, hR8, V7, ?_⟩
  · have p1 : upR Q7 0 (upI (Q7 0) 2 0) j = Q7 j := by unfold upR; rw [if_neg z1]
    rw [p1, mg57.1 j z1 z2, a5.1 j z1]
    unfold upR
    rw [if_neg z2, if_neg z2, if_neg z1, if_neg z1]
  · have p1 : upR Q7 0 (upI (Q7 0) 2 0) 0 j = upI (Q7 0) 2 0 j := rfl
    rw [p1, upI_n _ _ (by omega), mg57.2 j (by omega), a5.2 j (by omega)]
    show upI (upI (Q 0) 7 0) 3 0 j = Q 0 j
    rw [upI_n _ _ (by omega), upI_n _ _ (by omega)]
  · have m7 : gfi g8 (some 34) [11] 7 = some (zI (Q7 0 7)) := by have := mf7 M8; exact this
    have e17 : b_M_basin_17 F F (some 34) (0 : Int32) g2 = b_M_basin_17 F (fu' + 1) (some 34) (zI 42) g3 := e3
    unfold f_M_basin
    rw [show (Value.int (0 : Int32)) = Value.int (zI 0) from rfl, e0, bd, e1, bd, e2, bd, e17]
    unfold b_M_basin_17
    rw [if_pos (by decide), mg14 M3, bd, show ast g3 (some 39) 0 (0 : Int32) (1 : Int32) = some g4 from e4, bd, mr_on M4, e5, bd, mr_on M5, e6, bd, X6.on, show f_M_readsRest F (some 34) g6 = some g7 from e7, bd, show (Value.int (0 : Int32)) = Value.int (zI 0) from rfl, e8, bd, mr_on M8, hwell, bd]
    show _ = if Q7 0 7 = 0 then _ else _
    by_cases c : Q7 0 7 = 0
    · rw [if_pos c, if_pos c, if_neg (by decide), mg14 M8, bd, mg15 M8, bd]
    · rw [if_neg c, if_neg c, if_pos rfl, m7, bd]
      rfl
theorem s_basin {F : Nat} (hF : 10000 ≤ F) : Ok (f_C_basin F (some 3)) (f_M_basin F (some 34)) := by
  intro h P X
  obtain ⟨E, M, C, D, I⟩ := id X
  obtain ⟨⟨W, Z, K⟩, I2, I3, I4, I5, I6⟩ := id I
  obtain ⟨pl, fa, fp, T1, T2⟩ := C.2.2.1
  have D48 := D.1
  obtain ⟨h1, pl', fa', fp', lf', e1, f1, Y1, ff, Tb1, Bs1⟩ := k_read (F := F) (lf0 := P 0 9) (tp := P 1) (n := P 0 2) (by omega) I3 I4 ⟨T1, T2⟩ C.2.2.2.2.2.2.1 D
  have D1 := f1.2.2.2 D
  have sm : ∀ j, j < 48 → j ≠ 8 → j ≠ 29 → j ≠ 30 → j ≠ 31 → h1.1 j = h.1 j := fun j q1 q2 q3 q4 q5 => f1.2.2.1 j (by omega) q2 q3 q4 q5
  have E1 : Es h1 := ⟨(sm 0 (by omega) (by omega) (by omega) (by omega) (by omega)).trans E.1, (sm 1 (by omega) (by omega) (by omega) (by omega) (by omega)).trans E.2⟩
  have M1 : Mr h1 P := ⟨(sm 34 (by omega) (by omega) (by omega) (by omega) (by omega)).trans M.1, fun a a1 a2 => (sm (34 + a) (by omega) (by omega) (by omega) (by omega) (by omega)).trans (M.2 a a1 a2)⟩
  have CO1 : CO h1 (P 6 0) (P 0 13) := (sm 3 (by omega) (by omega) (by omega) (by omega) (by omega)).trans C.1
  have on8 : ∀ x : Option (Int32 × MH), onc h (some 8) 9 x = x := fun x => onc_o T1
  have on8' : ∀ x : Option Int32, onc h1 (some 8) 9 x = x := fun x => onc_o Y1.1
  have g4 : gfi h1 (some 8) [9] 4 = some (zI fp') := gfi_o Y1.1 rfl rfl
  -- what both have found
  have key : (fa' = 0 ∧ ∃ v p, pAll (Lt (P 1) (P 0 2)) = .ok (v, p) ∧ lf' = P 0 9) ∨ (fa' ≠ 0 ∧ ∃ e, pAll (Lt (P 1) (P 0 2)) = .error e ∧ fa' = e.1 ∧ fp' = e.2 ∧ lf' = e.1 ∧ (1 ≤ e.1 ∧ e.1 ≤ 3) ∧ 0 ≤ e.2 ∧ e.2 ≤ 120) := by
    cases hP : pAll (Lt (P 1) (P 0 2)) with
    | ok vp =>
      rw [hP] at ff
      obtain ⟨y1, y2, y3⟩ := ff
      exact Or.inl ⟨y2, vp.1, vp.2, rfl, y3⟩
    | error e =>
      rw [hP] at ff
      obtain ⟨y1, y2, y3, y4, y5⟩ := ff
      exact Or.inr ⟨by omega, e, rfl, y1, y2, y3, y4, y5⟩
  rcases key with ⟨k1, v, p, k2, k3⟩ | ⟨k1, e, k2, k3, k4, k5, k6, k7⟩
  · -- told well
    have WPv := pAll_P I3 I4 k2
    obtain ⟨Wv', Zv, v17, v0, von⟩ := WPv
    have B29 : Bx h1 29 v := ⟨Bs1 v p k2, Tb1⟩
    have w4 := Wv'.2.2.2.1
    -- the class
    have CR1 : CR h1 (upR P 0 (upI (upI (P 0) 2 0) 9 lf')) := C.told D f1 Tb1 (Q := upR P 0 (upI (upI (P 0) 2 0) 9 lf')) ⟨pl', fa', fp', Y1.1, Y1.2⟩ ⟨⟨rfl, rfl, rfl, rfl, rfl, rfl, rfl, rfl⟩, rfl, rfl, rfl⟩
    obtain ⟨h2, e2, c2, hk2, B26⟩ := s_become (F := F) (a := 26) (b := 29) (by omega) (by omega) (by omega) CR1.2.2.2.2.2.1.2 B29 Zv w4.2
    have c2 : Ch 26 28 h1 h2 := c2
    have CO2 : CO h2 (P 6 0) (P 0 13) := CO1.fr c2 (by omega)
    obtain ⟨h3, e3, c3, CO3⟩ := co_p8 CO2 1
    have A3 : AO h3 (P 6) (P 8) (P 0 18) := (CR1.2.2.2.1.fr c2 (by omega)).fr c3 (by omega)
    obtain ⟨h4, on10, e4, c4, A4⟩ := c_forget A3
    have CO4 : CO h4 1 (P 0 13) := CO3.fr c4 (by omega)
    have B26' : Bx h4 26 v := (B26.ch c3 (by omega) (by omega)).ch c4 (by omega) (by omega)
    -- the reference
    have hall : Ch 3 28 h1 h4 := (c2.w (by omega) (by omega)).tr ((c3.w (by omega) (by omega)).tr (c4.w (by omega) (by omega)))
    obtain ⟨g0, e0, b0, N0⟩ := mr_pf (M1.fr hall (by omega)) 0 rfl 0
    obtain ⟨g12, Q12, c12, M12, s1, s2, s3, Z12, R12, V12, eM⟩ := m_basin (F := F) hF (tp := P 1) (n := P 0 2) I3 I4 e0 N0 rfl rfl I5
    rw [k2] at R12
    have hQ7 : Q12 0 7 = 0 := R12.1
    have hQ5 : Q12 5 = v := V12 v p k2
    have hQ6 : Q12 6 = P 6 := s1 6 (by decide) (by decide)
    obtain ⟨g13, e13, c13, M13⟩ := r_copies (F := F) (by omega) 5 6 (c := 39) (c' := 40) rfl rfl (by omega) (by omega) (by omega) M12 Z12 (by rw [hQ6]; exact Z)
    obtain ⟨g14, e14, c14, M14⟩ := mr_pf M13 18 rfl 0
    rw [hQ5] at M13 M14
    have A14 : g14.1 40 = aZ 42 v := M14.2 6 (by omega) (by omega)
    have hl : ∀ j, j ≠ 0 → j ≠ 5 → j ≠ 6 → (upR (upR Q12 6 v) 0 (upI (upR Q12 6 v 0) 18 0)) j = P j := fun j z1 z2 z3 => by
      unfold upR
      rw [if_neg z1, if_neg z3, s1 j z1 z2]
      unfold upR
      rw [if_neg z1]
    have hk0 : ∀ j, (j < 2 ∨ 8 < j) → j ≠ 0 → j ≠ 18 → (upR (upR Q12 6 v) 0 (upI (upR Q12 6 v 0) 18 0)) 0 j = P 0 j := fun j z1 z2 z3 => by
      show upI (Q12 0) 18 0 j = _
      rw [upI_n _ _ z3, s2 j z1]
      exact upI_n _ _ z2
    have T4 : TO h4 (P 1) 0 (P 0 9) := by
      have T1' : TO h1 (P 1) 0 (P 0 9) := ⟨pl', fa', fp', by rw [← k3]; exact Y1.1, Y1.2⟩
      exact ((T1'.fr c2 (by omega)).fr c3 (by omega)).fr c4 (by omega)
    obtain ⟨x1, x2, x3, x4, x5, x6, x7, x8, x9⟩ := CR1
    have CR4 : CR h4 (upR (upR P 6 v) 0 (upI (upI (P 0) 2 0) 18 0)) := by
      refine ⟨?_, ((x2.fr c2 (by omega)).fr c3 (by omega)).fr c4 (by omega), T4, A4 _ _, ((x5.fr c2 (by omega)).fr c3 (by omega)).fr c4 (by omega), B26', ((x7.ch c2 (by omega) (by omega)).ch c3 (by omega) (by omega)).ch c4 (by omega) (by omega), ((x8.fr c2 (by omega) (by omega)).fr c3 (by omega) (by omega)).fr c4 (by omega) (by omega), ((x9.fr c2 (by omega)).fr c3 (by omega)).fr c4 (by omega)⟩
      show CO h4 (v 0) (P 0 13)
      rw [v0]
      exact CO4
    have D4 : Dn h4 := ((D1.fr c2 (by omega)).fr c3 (by omega)).fr c4 (by omega)
    have call : Ch 34 47 h4 g14 := b0.tr (c12.tr (c13.tr c14))
    have hQ2 : (upR (upR Q12 6 v) 0 (upI (upR Q12 6 v 0) 18 0)) 0 2 = 0 := by
      show upI (Q12 0) 18 0 2 = 0
      rw [upI_n _ _ (by decide)]
      exact s3
    refine ⟨zI (v 4), h4, g14, upR (upR Q12 6 v) 0 (upI (upR Q12 6 v 0) 18 0), ?_, ?_, ?_, ?_⟩
    · unfold f_C_basin
      rw [cg1 C.1, bd, cg5 C.1, bd, on8, e1, bd, if_pos k1, if_neg (show ¬ (1 : Int32) = 0 by decide), cg4 CO1, bd, cg5 CO1, bd, b_on x6.1.1, e2, bd, show (Value.int (1 : Int32)) = Value.int (zI 1) from rfl, e3, bd, cg2 CO3, bd, on10, e4, bd, cg4 CO4, bd, (b_g B26'.1.1).2.2.2.2.2.2.2.2.1]
      rfl
    · rw [eM, if_pos hQ7, e13, bd, show (Value.int (0 : Int32)) = Value.int (zI 0) from rfl, e14, bd, mg15 M14, bd, aldL A14 4 4 rfl (by decide) (by decide)]
      rfl
    · refine J.fin (h1 := h4) (P1 := upR (upR P 6 v) 0 (upI (upI (P 0) 2 0) 18 0)) (hall.es (by omega) E1) CR4 D4 ?_ call M14 ?_
      · refine ⟨⟨Wv', Zv, ?_⟩, Or.inr v0, ?_, fun k hk => ?_, Z12, ?_⟩
        · exact ⟨by show v 17 ≤ 999; omega, von⟩
        · rw [hQ2]
          omega
        · rw [hQ2] at hk
          omega
        · rw [hl 7 (by decide) (by decide) (by decide)]
          exact I6
      · refine ⟨⟨rfl, hl 2 (by decide) (by decide) (by decide), hl 3 (by decide) (by decide) (by decide), hl 4 (by decide) (by decide) (by decide), hl 1 (by decide) (by decide) (by decide), hl 8 (by decide) (by decide) (by decide), hl 9 (by decide) (by decide) (by decide), hl 10 (by decide) (by decide) (by decide), hl 11 (by decide) (by decide) (by decide)⟩, hk0 13 (by omega) (by decide) (by decide), hQ2, hk0 9 (by omega) (by decide) (by decide), rfl, hk0 22 (by omega) (by decide) (by decide)⟩
    · obtain ⟨⟨u1, u2⟩, ⟨u3, u4⟩, u5, -⟩ := f1
      unfold Gr
      rw [call.1, hall.1, call.2 2 (by omega), hall.2 2 (by omega), u5 2 (by omega) (by omega) (by omega) (by omega) (by omega)]
      exact ⟨u1, by omega, u3, by omega, rfl, rfl⟩
  · -- a fault
    have CR1 : CR h1 (upR P 0 (upI (upI (P 0) 2 0) 9 lf')) := C.told D f1 Tb1 (Q := upR P 0 (upI (upI (P 0) 2 0) 9 lf')) ⟨pl', fa', fp', Y1.1, Y1.2⟩ ⟨⟨rfl, rfl, rfl, rfl, rfl, rfl, rfl, rfl⟩, rfl, rfl, rfl⟩
    obtain ⟨g0, e0, b0, N0⟩ := mr_pf M1 0 rfl 0
    obtain ⟨g12, Q12, c12, M12, s1, s2, s3, Z12, R12, V12, eM⟩ := m_basin (F := F) hF (tp := P 1) (n := P 0 2) I3 I4 e0 N0 rfl rfl I5
    rw [k2] at R12
    obtain ⟨r1, r2, r3, r4⟩ := R12
    obtain ⟨g13, e13, c13, M13⟩ := mr_pf M12 9 rfl (Q12 0 7)
    have m8 : gfi g13 (some 34) [11] 8 = some (zI (Q12 0 8)) := by have := mf8 M13; exact this
    have hl : ∀ j, j ≠ 0 → j ≠ 5 → (upR Q12 0 (upI (Q12 0) 9 (Q12 0 7))) j = P j := fun j z1 z2 => by
      unfold upR
      rw [if_neg z1, s1 j z1 z2]
      unfold upR
      rw [if_neg z1]
    have hk0 : ∀ j, (j < 2 ∨ 8 < j) → j ≠ 0 → j ≠ 9 → (upR Q12 0 (upI (Q12 0) 9 (Q12 0 7))) 0 j = P 0 j := fun j z1 z2 z3 => by
      show upI (Q12 0) 9 (Q12 0 7) j = _
      rw [upI_n _ _ z3, s2 j z1]
      exact upI_n _ _ z2
    have hQ2 : (upR Q12 0 (upI (Q12 0) 9 (Q12 0 7))) 0 2 = 0 := by
      show upI (Q12 0) 9 (Q12 0 7) 2 = 0
      rw [upI_n _ _ (by decide)]
      exact s3
    have call : Ch 34 47 h1 g13 := b0.tr (c12.tr c13)
    refine ⟨zI (-1000100 - e.2), h1, g13, upR Q12 0 (upI (Q12 0) 9 (Q12 0 7)), ?_, ?_, ?_, ?_⟩
    · unfold f_C_basin f_T_faultPlace
      rw [cg1 C.1, bd, cg5 C.1, bd, on8, e1, bd, if_neg k1, if_pos rfl, cg1 CO1, bd, on8', g4, bd, bd, lN100, zI_sub, k4]
    · rw [eM, if_neg (by rw [r1]; omega), e13, bd, m8, bd, lN100, zI_sub, r2]
    · refine J.fin (h1 := h1) E1 CR1 D1 ?_ call M13 ?_
      · refine ⟨?_, ?_, ?_, fun k hk => ?_, Z12, ?_⟩
        · rw [hl 6 (by decide) (by decide)]
          exact ⟨W, Z, K⟩
        · rw [hl 6 (by decide) (by decide), hl 10 (by decide) (by decide)]
          exact I2
        · rw [hQ2]
          omega
        · rw [hQ2] at hk
          omega
        · rw [hl 7 (by decide) (by decide)]
          exact I6
      · refine ⟨⟨hl 6 (by decide) (by decide), hl 2 (by decide) (by decide), hl 3 (by decide) (by decide), hl 4 (by decide) (by decide), hl 1 (by decide) (by decide), hl 8 (by decide) (by decide), hl 9 (by decide) (by decide), hl 10 (by decide) (by decide), hl 11 (by decide) (by decide)⟩, hk0 13 (by omega) (by decide) (by decide), hQ2, ?_, hk0 18 (by omega) (by decide) (by decide), hk0 22 (by omega) (by decide) (by decide)⟩
        show Q12 0 7 = lf'
        rw [r1, k5]
    · obtain ⟨⟨u1, u2⟩, ⟨u3, u4⟩, u5, -⟩ := f1
      unfold Gr
      rw [call.1, call.2 2 (by omega), u5 2 (by omega) (by omega) (by omega) (by omega) (by omega)]
      exact ⟨u1, by omega, u3, by omega, rfl, rfl⟩
