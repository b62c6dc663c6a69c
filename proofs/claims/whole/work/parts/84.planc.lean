/-! ===== plan, the call ===== -/
theorem s_plan {F : Nat} (hF : 10000 ≤ F) (i1 i2 i3 i4 : Int32) : Ok (f_C_plan F (some 3) i1 i2 i3 i4) (f_M_plan F (some 34) i1 i2 i3 i4) := by
  intro h P X
  obtain ⟨r, r1, r2, rfl⟩ := i_ex i1
  obtain ⟨s, s1, s2, rfl⟩ := i_ex i2
  obtain ⟨n, n1, n2, rfl⟩ := i_ex i3
  obtain ⟨w, w1, w2, rfl⟩ := i_ex i4
  obtain ⟨iR, iR'⟩ := isRow_i r1 r2
  obtain ⟨E, M, C, D, I⟩ := id X
  obtain ⟨⟨W, Z, K⟩, I2, I3, I4, I5, I6⟩ := id I
  have w4 := W.2.2.2.1
  have B := C.2.2.2.2.2.1
  have x0 : zI (P 6 0) = (0 : Int32) ↔ P 6 0 = 0 := zI_eq (b := 0) (by omega) (by omega) (by omega) (by omega)
  have xn0 : zI n < (0 : Int32) ↔ n < 0 := zI_lt (b := 0) (by omega) (by omega) (by omega) (by omega)
  have xn40 : (40 : Int32) < zI n ↔ 40 < n := zI_lt (a := 40) (by omega) (by omega) (by omega) (by omega)
  have hw : f_C_within (zI w) (2 : Int32) = 0 ↔ ¬ (0 ≤ w ∧ w < 2) := s_within0 (b := 2) w1 w2 (by omega) (by omega)
  have hinn : f_M_in (zI n) (0 : Int32) (40 : Int32) = 0 ↔ ¬ (0 ≤ n ∧ n ≤ 40) := by
    rw [show f_M_in (zI n) (0 : Int32) (40 : Int32) = if 0 ≤ n ∧ n ≤ 40 then 1 else 0 from s_M_in (a := 0) (b := 40) n1 n2 (by omega) (by omega) (by omega) (by omega), ite_01]
  have hinw : f_M_in (zI w) (0 : Int32) (1 : Int32) = 0 ↔ ¬ (0 ≤ w ∧ w < 2) := by
    rw [show f_M_in (zI w) (0 : Int32) (1 : Int32) = if 0 ≤ w ∧ w ≤ 1 then 1 else 0 from s_M_in (a := 0) (b := 1) w1 w2 (by omega) (by omega) (by omega) (by omega), ite_01]
    omega
  by_cases cb : P 6 0 ≠ 0 ∧ (0 ≤ r ∧ r < 8) ∧ (0 ≤ n ∧ n ≤ 40) ∧ (0 ≤ w ∧ w < 2)
  · obtain ⟨c0, cr, cn, cw⟩ := cb
    have hlaA := C.2.1.r (r := r.toNat) (by omega)
    have xA : zI (P 2 r.toNat) = (0 : Int32) ↔ P 2 r.toNat = 0 := zI_eq (b := 0) (by omega) (by omega) (by omega) (by omega)
    obtain ⟨hma1, hma2⟩ := c_missing C.2.1 cr.1 cr.2
    have hon := rw_on C.2.1 (α := Int32)
    -- the finding, of both
    obtain ⟨fnum, hf⟩ : ∃ fnum : Int, fnum = if P 2 r.toNat = 0 then 1 else if 0 ≤ s ∧ 0 ≤ n ∧ s + n ≤ P 3 r.toNat then 0 else 2 := ⟨_, rfl⟩
    have ffr : 0 ≤ fnum ∧ fnum ≤ 2 := by rw [hf]; split <;> (try split) <;> omega
    have fC : f_C_findingAt (some 3) (zI r) (zI s) (zI n) h = some (zI fnum) := by
      unfold f_C_findingAt
      rw [cg0 C.1, bd, hon]
      by_cases c : P 2 r.toNat = 0
      · rw [hma2 c, bd, if_neg (by decide), hf, if_pos c]
        rfl
      · rw [hma1 c, bd, if_pos rfl, bd, hon, c_holds C.2.1 cr.1 cr.2 c s1 s2 n1 n2, bd, hf, if_neg c]
        by_cases c2 : 0 ≤ s ∧ 0 ≤ n ∧ s + n ≤ P 3 r.toNat
        · rw [if_pos c2, if_pos c2, if_neg (by decide)]
          rfl
        · rw [if_neg c2, if_neg c2, if_pos rfl]
          rfl
    have fM : ∀ g, Mr g (th P) → f_M_wrongRow (some 34) (zI r) (zI s) (zI n) g = some (zI fnum) := by
      intro g N
      have A : g.1 36 = aZ 8 (P 2) := N.2 2 (by omega) (by omega)
      unfold f_M_wrongRow
      rw [mg10 N, bd, aldZ A cr.1 (by omega) (by omega), bd]
      simp only [xA]
      rw [hf]
      by_cases c : P 2 r.toNat = 0
      · rw [if_pos c, if_pos c]
        rfl
      · have hp : f_M_isPart (some 34) (zI r) (zI s) (zI n) g = some (if 0 ≤ s ∧ 0 ≤ n ∧ s + n ≤ P 3 r.toNat then 1 else 0) := m_isPart N cr.1 cr.2 hlaA.2 s1 s2 n1 n2
        rw [if_neg c, if_neg c, mr_on N, hp, bd]
        by_cases c2 : 0 ≤ s ∧ 0 ≤ n ∧ s + n ≤ P 3 r.toNat
        · rw [if_pos c2, if_pos c2, if_neg (by decide)]
          rfl
        · rw [if_neg c2, if_neg c2, if_pos rfl]
          rfl
    have xf : zI fnum = (0 : Int32) ↔ fnum = 0 := zI_eq (b := 0) (by omega) (by omega) (by omega) (by omega)
    have xf' : zI fnum ≤ (0 : Int32) ↔ fnum ≤ 0 := zI_le (b := 0) (by omega) (by omega) (by omega) (by omega)
    have preM : ∀ g0 g, pfv g0 (some 34) [11] 0 (Value.int (zI 0)) = some g → Mr g (th P) → f_M_plan F (some 34) (zI r) (zI s) (zI n) (zI w) g0 = if fnum ≤ 0 then (Option.bind (f_M_copies F (some 40) (some 41) g) fun h18 => b_M_plan_91 F F (some 34) (zI r) (zI s) (zI n) (zI w) (0 : Int32) (0 : Int32) (1 : Int32) (0 : Int32) h18) else (Option.bind (f_M_finds (some 34) (zI fnum) g) fun x20 => some (x20.1, x20.2)) := by
      intro g0 g e N
      have A0 : g.1 40 = aZ 42 (P 6) := N.2 6 (by omega) (by omega)
      unfold f_M_plan
      rw [show (Value.int (0 : Int32)) = Value.int (zI 0) from rfl, e, bd, mg15 N, bd, aldL A0 0 0 rfl (by decide) (by decide), bd]
      simp only [x0, iR', hinn, hinw]
      rw [if_neg c0, if_neg (show ¬ ¬ (0 ≤ r ∧ r < 8) from fun z => z cr), if_neg (show ¬ ¬ (0 ≤ n ∧ n ≤ 40) from fun z => z cn), if_neg (show ¬ ¬ (0 ≤ w ∧ w < 2) from fun z => z cw), mr_on N, fM g N, bd]
      simp only [xf']
      rw [bd, mg16 N, bd, mr_on N]
    have preC : ∀ R, (if fnum = 0 then (Option.bind (f_C_planned F (some 3) (zI r) (zI s) (zI n) (zI w) h) fun x11 => Option.bind (onc x11.2 (some 3) 10 (f_C_sound (some 3) x11.1 x11.2)) fun x13 => some (x13.1, x13.2)) else (Option.bind (f_C_found (some 3) (zI fnum) h) fun x15 => some (x15.1, x15.2))) = R → f_C_plan F (some 3) (zI r) (zI s) (zI n) (zI w) h = R := by
      intro R hR
      rw [← hR]
      unfold f_C_plan
      rw [cf8 C.1, bd]
      simp only [x0, iR, hw, xn0, xn40]
      rw [if_neg c0, if_neg (show ¬ ¬ (0 ≤ r ∧ r < 8) from fun z => z cr), if_neg (by omega), if_neg (by omega), if_neg (show ¬ ¬ (0 ≤ w ∧ w < 2) from fun z => z cw), co_on C.1, fC, bd]
      simp only [xf]
      rw [co_on C.1, co_on C.1]
    by_cases cf : fnum = 0
    · have hla : P 2 r.toNat ≠ 0 := fun z => by rw [if_pos z] at hf; omega
      have hpart : 0 ≤ s ∧ 0 ≤ n ∧ s + n ≤ P 3 r.toNat := by
        rw [if_neg hla] at hf
        by_cases c2 : 0 ≤ s ∧ 0 ≤ n ∧ s + n ≤ P 3 r.toNat
        · exact c2
        · rw [if_neg c2] at hf
          omega
      obtain ⟨h1, e1, c1, k1, B1⟩ := s_become (F := F) (a := 29) (b := 26) (by omega) (by omega) (by omega) C.2.2.2.2.2.2.1 B Z (by omega)
      have C1 := C.tr c1 B1
      have K17 : P 6 17 ≤ 999 := K.1
      have pl : ∀ (g : MH), Mr g (upR (th P) 7 (P 6)) → ∃ x h' g' f, b_C_planned_20 F F (some 3) (zI r) (zI s) (zI n) (zI w) (zI ((0 : Nat) : Int)) (zI 0) (zI ((0 : Nat) : Int)) h1 = some (x, h') ∧ Ch 29 31 h1 h' ∧ CR h' P ∧ b_M_plan_91 F F (some 34) (zI r) (zI s) (zI n) (zI w) (zI ((0 : Nat) : Int)) (zI 0) 1 (zI ((0 : Nat) : Int)) g = some (x, g') ∧ Ch 34 47 g g' ∧ Mr g' (fd (upR (upR (th P) 7 (P 6)) 7 f) 0) ∧ Wz f := fun g N => s_planned (F := F) (P := P) (w := w) cr hpart.1 cn hpart.2.2 hla n.toNat 0 F F h1 g (upR (th P) 7 (P 6)) (P 6) 0 (by omega) (by omega) (by omega) (c1.es (by omega) E) C1 B1 N rfl rfl rfl W Z W (by omega) (fun q _ _ _ => rfl) (by omega)
      -- the class's side says where the reference begins
      obtain ⟨gX, eX, cX, NX⟩ := mr_pf (M.fr c1 (by omega)) 0 rfl 0
      obtain ⟨gY, eY, cY, NY⟩ := r_copies (F := F) (by omega) 6 7 (c := 40) (c' := 41) rfl rfl (by omega) (by omega) (by omega) NX Z I6
      obtain ⟨x, h2, -, -, f1, f2, f3, -⟩ := pl gY NY
      obtain ⟨h3, e3, c3, C3⟩ := c_sound f3.1 x
      have hall : Ch 3 31 h h3 := (c1.w (by omega) (by omega)).tr ((f2.w (by omega) (by omega)).tr (c3.w (by omega) (by omega)))
      obtain ⟨g0, e0, b0, N0⟩ := mr_pf (M.fr hall (by omega)) 0 rfl 0
      obtain ⟨g1, e4, b1, N1⟩ := r_copies (F := F) (by omega) 6 7 (c := 40) (c' := 41) rfl rfl (by omega) (by omega) (by omega) N0 Z I6
      obtain ⟨x', h2', g2, f, y1, y2, y3, y4, b2, N2, Zf⟩ := pl g1 N1
      have exx : (x, h2) = (x', h2') := Option.some.inj (f1.symm.trans y1)
      have ex : x = x' := congrArg Prod.fst exx
      subst ex
      refine ⟨x, h3, g2, _, preC _ ?_, ?_, J.fin (hall.es (by omega) E) (P1 := fd P 0) (f3.co c3 C3) (D.fr hall (by omega)) ?_ (b0.tr (b1.tr b2)) N2 ⟨⟨rfl, rfl, rfl, rfl, rfl, rfl, rfl, rfl, rfl⟩, rfl, rfl, rfl, rfl, rfl⟩, Gr_2 hall (b0.tr (b1.tr b2)) (by omega) (by omega)⟩
      · have ep : f_C_planned F (some 3) (zI r) (zI s) (zI n) (zI w) h = some (x, h2) := by
          unfold f_C_planned
          rw [cg5 C.1, bd, cg4 C.1, bd, b_on C.2.2.2.2.2.2.1.choose_spec.choose_spec.choose_spec.1, e1, bd]
          exact f1
        rw [if_pos cf, ep, bd, co_on f3.1, e3]
        rfl
      · rw [preM h3 g0 e0 N0, if_pos (by omega), e4, bd]
        exact y4
      · exact ⟨⟨W, Z, K⟩, I2, I3, I4, I5, Zf⟩
    · obtain ⟨h1, e1, c1, hg⟩ := X.find fnum
      obtain ⟨g, e, c, N⟩ := mr_pf (M.fr c1 (by omega)) 0 rfl 0
      obtain ⟨h2, e2, c2, J2⟩ := hg g c N
      refine ⟨zI (-1000010 - fnum), h1, h2, _, preC _ ?_, ?_, J2, Gr_2 c1 (c.tr c2) (by omega) (by omega)⟩
      · rw [if_neg cf, e1]
        rfl
      · rw [preM h1 g e N, if_neg (by omega), e2]
        rfl
  · obtain ⟨g, e, c, X'⟩ := X.thr
    have M' := X'.2.1
    have A0 : g.1 40 = aZ 42 (P 6) := M'.2 6 (by omega) (by omega)
    refine ⟨if P 6 0 = 0 then -1000002 else -1000001, h, g, th P, ?_, ?_, X', Gr_eq c (by omega)⟩
    · unfold f_C_plan
      rw [cf8 C.1, bd]
      simp only [x0, iR, hw, xn0, xn40]
      by_cases c0 : P 6 0 = 0
      · rw [if_pos c0, if_pos c0]
      · rw [if_neg c0, if_neg c0]
        by_cases cr : 0 ≤ r ∧ r < 8
        · rw [if_neg (show ¬ ¬ (0 ≤ r ∧ r < 8) from fun z => z cr)]
          by_cases cn0 : n < 0
          · rw [if_pos cn0]
          · rw [if_neg cn0]
            by_cases cn1 : 40 < n
            · rw [if_pos cn1]
            · rw [if_neg cn1, if_pos (fun z => cb ⟨c0, cr, ⟨by omega, by omega⟩, z⟩)]
        · rw [if_pos cr]
    · unfold f_M_plan
      rw [e, bd, mg15 M', bd, aldL A0 0 0 rfl (by decide) (by decide), bd]
      simp only [x0, iR', hinn, hinw]
      by_cases c0 : P 6 0 = 0
      · rw [if_pos c0, if_pos c0]
      · rw [if_neg c0, if_neg c0]
        by_cases cr : 0 ≤ r ∧ r < 8
        · rw [if_neg (show ¬ ¬ (0 ≤ r ∧ r < 8) from fun z => z cr)]
          by_cases cn0 : 0 ≤ n ∧ n ≤ 40
          · rw [if_neg (show ¬ ¬ (0 ≤ n ∧ n ≤ 40) from fun z => z cn0), if_pos (fun z => cb ⟨c0, cr, cn0, z⟩)]
          · rw [if_pos cn0]
        · rw [if_pos cr]
