/-! ===== seen ===== -/
theorem s_seen {F : Nat} (hF : 10000 ≤ F) (i1 i2 i3 i4 : Int32) : Ok (f_C_seen F (some 3) i1 i2 i3 i4) (f_M_seen F (some 34) i1 i2 i3 i4) := by
  intro h P X
  obtain ⟨r, r1, r2, rfl⟩ := i_ex i1
  obtain ⟨s, s1, s2, rfl⟩ := i_ex i2
  obtain ⟨n, n1, n2, rfl⟩ := i_ex i3
  obtain ⟨w, w1, w2, rfl⟩ := i_ex i4
  obtain ⟨iR, iR'⟩ := isRow_i r1 r2
  obtain ⟨E, M, C, D, I⟩ := id X
  obtain ⟨⟨W, Z, K⟩, I2, I3, I4, I5, I6⟩ := id I
  have w4 := W.2.2.2.1
  have B := C.2.2.2.2.2.1
  have x0 : zI (P 6 0) = (0 : Int32) ↔ P 6 0 = 0 := zI_eq (b := 0) (by omega) (by omega) (by omega) (by omega)
  have xn1 : zI n < (1 : Int32) ↔ n < 1 := zI_lt (b := 1) (by omega) (by omega) (by omega) (by omega)
  have xn4 : (4 : Int32) < zI n ↔ 4 < n := zI_lt (a := 4) (by omega) (by omega) (by omega) (by omega)
  have hw : f_C_within (zI w) (2 : Int32) = 0 ↔ ¬ (0 ≤ w ∧ w < 2) := s_within0 (b := 2) w1 w2 (by omega) (by omega)
  have hinn : f_M_in (zI n) (1 : Int32) (4 : Int32) = 0 ↔ ¬ (1 ≤ n ∧ n ≤ 4) := by
    rw [show f_M_in (zI n) (1 : Int32) (4 : Int32) = if 1 ≤ n ∧ n ≤ 4 then 1 else 0 from s_M_in (a := 1) (b := 4) n1 n2 (by omega) (by omega) (by omega) (by omega), ite_01]
  have hinw : f_M_in (zI w) (0 : Int32) (1 : Int32) = 0 ↔ ¬ (0 ≤ w ∧ w < 2) := by
    rw [show f_M_in (zI w) (0 : Int32) (1 : Int32) = if 0 ≤ w ∧ w ≤ 1 then 1 else 0 from s_M_in (a := 0) (b := 1) w1 w2 (by omega) (by omega) (by omega) (by omega), ite_01]
    omega
  have xw : zI w = (0 : Int32) ↔ w = 0 := zI_eq (b := 0) (by omega) (by omega) (by omega) (by omega)
  by_cases cb : P 6 0 ≠ 0 ∧ (0 ≤ r ∧ r < 8) ∧ (1 ≤ n ∧ n ≤ 4) ∧ (0 ≤ w ∧ w < 2)
  · obtain ⟨c0, cr, cn, cw⟩ := cb
    have hlaA := C.2.1.r (r := r.toNat) (by omega)
    have xA : zI (P 2 r.toNat) = (0 : Int32) ↔ P 2 r.toNat = 0 := zI_eq (b := 0) (by omega) (by omega) (by omega) (by omega)
    obtain ⟨hma1, hma2⟩ := c_missing C.2.1 cr.1 cr.2
    have hon := rw_on C.2.1 (α := Int32)
    -- the finding, of both
    obtain ⟨fnum, hf⟩ : ∃ fnum : Int, fnum = if P 2 r.toNat = 0 then 1 else if 0 ≤ s ∧ 0 ≤ n ∧ s + n ≤ P 3 r.toNat then 0 else 2 := ⟨_, rfl⟩
    have ffr : 0 ≤ fnum ∧ fnum ≤ 2 := by rw [hf]; split <;> (try split) <;> omega
    have fC : f_C_findingAt (some 3) (zI r) (zI s) (zI n) h = some (zI fnum) := by
      unfold f_C_findingAt
      rw [cg0 C.1, bd, hon]
      by_cases c : P 2 r.toNat = 0
      · rw [hma2 c, bd, if_neg (by decide), hf, if_pos c]
        rfl
      · rw [hma1 c, bd, if_pos rfl, bd, hon, c_holds C.2.1 cr.1 cr.2 c s1 s2 n1 n2, bd, hf, if_neg c]
        by_cases c2 : 0 ≤ s ∧ 0 ≤ n ∧ s + n ≤ P 3 r.toNat
        · rw [if_pos c2, if_pos c2, if_neg (by decide)]
          rfl
        · rw [if_neg c2, if_neg c2, if_pos rfl]
          rfl
    have fM : ∀ g, Mr g (th P) → f_M_wrongRow (some 34) (zI r) (zI s) (zI n) g = some (zI fnum) := by
      intro g N
      have A : g.1 36 = aZ 8 (P 2) := N.2 2 (by omega) (by omega)
      unfold f_M_wrongRow
      rw [mg10 N, bd, aldZ A cr.1 (by omega) (by omega), bd]
      simp only [xA]
      rw [hf]
      by_cases c : P 2 r.toNat = 0
      · rw [if_pos c, if_pos c]
        rfl
      · have hp : f_M_isPart (some 34) (zI r) (zI s) (zI n) g = some (if 0 ≤ s ∧ 0 ≤ n ∧ s + n ≤ P 3 r.toNat then 1 else 0) := m_isPart N cr.1 cr.2 hlaA.2 s1 s2 n1 n2
        rw [if_neg c, if_neg c, mr_on N, hp, bd]
        by_cases c2 : 0 ≤ s ∧ 0 ≤ n ∧ s + n ≤ P 3 r.toNat
        · rw [if_pos c2, if_pos c2, if_neg (by decide)]
          rfl
        · rw [if_neg c2, if_neg c2, if_pos rfl]
          rfl
    have xf : zI fnum = (0 : Int32) ↔ fnum = 0 := zI_eq (b := 0) (by omega) (by omega) (by omega) (by omega)
    have xf' : zI fnum ≤ (0 : Int32) ↔ fnum ≤ 0 := zI_le (b := 0) (by omega) (by omega) (by omega) (by omega)
    have preM : ∀ g0 g, pfv g0 (some 34) [11] 0 (Value.int (zI 0)) = some g → Mr g (th P) → f_M_seen F (some 34) (zI r) (zI s) (zI n) (zI w) g0 = if fnum ≤ 0 then b_M_seen_74 F F (some 34) (zI r) (zI s) (zI n) (zI w) (-1000000 : Int32) (zI n) g else (Option.bind (f_M_finds (some 34) (zI fnum) g) fun x20 => some (x20.1, x20.2)) := by
      intro g0 g e N
      have A0 : g.1 40 = aZ 42 (P 6) := N.2 6 (by omega) (by omega)
      unfold f_M_seen
      rw [show (Value.int (0 : Int32)) = Value.int (zI 0) from rfl, e, bd, mg15 N, bd, aldL A0 0 0 rfl (by decide) (by decide), bd]
      simp only [x0, iR', hinn, hinw]
      rw [if_neg c0, if_neg (show ¬ ¬ (0 ≤ r ∧ r < 8) from fun z => z cr), if_neg (show ¬ ¬ (1 ≤ n ∧ n ≤ 4) from fun z => z cn), if_neg (show ¬ ¬ (0 ≤ w ∧ w < 2) from fun z => z cw), mr_on N, fM g N, bd]
      simp only [xf']
      rw [mr_on N]
    have preC : ∀ R, (if fnum = 0 then (Option.bind (f_B_become F (some 29) (some 26) h) fun h15 =>
              if w = 0 then
                Option.bind (gfr h15 (some 3) [10] 4) fun x18 =>
                Option.bind (gfi h15 x18 [1] 3) fun x20 =>
                Option.bind (gfr h15 (some 3) [10] 4) fun x22 =>
                Option.bind (gfi h15 x22 [1] 4) fun x24 =>
                Option.bind (onc h15 (some 3) 10 (g_C_waysSeen F 6 (some 3) (zI r) (zI s) (zI n) x20 x24 h15)) fun x26 =>
                b_C_seen_108 F (some 3) x26.1 x26.2
              else
                Option.bind (onc h15 (some 3) 10 (f_C_firstSeen F (some 3) (zI r) (zI s) (zI n) h15)) fun x28 =>
                b_C_seen_108 F (some 3) x28.1 x28.2) else (Option.bind (f_C_found (some 3) (zI fnum) h) fun x15 => some (x15.1, x15.2))) = R → f_C_seen F (some 3) (zI r) (zI s) (zI n) (zI w) h = R := by
      intro R hR
      rw [← hR]
      unfold f_C_seen
      rw [cf8 C.1, bd]
      simp only [x0, iR, hw, xn1, xn4]
      rw [if_neg c0, if_neg (show ¬ ¬ (0 ≤ r ∧ r < 8) from fun z => z cr), if_neg (by omega), if_neg (by omega), if_neg (show ¬ ¬ (0 ≤ w ∧ w < 2) from fun z => z cw), co_on C.1, fC, bd]
      simp only [xf, xw]
      rw [cg5 C.1, bd, cg4 C.1, bd, b_on C.2.2.2.2.2.2.1.choose_spec.choose_spec.choose_spec.1, co_on C.1]
    by_cases cf : fnum = 0
    · have hla : P 2 r.toNat ≠ 0 := fun z => by rw [if_pos z] at hf; omega
      have hpart : 0 ≤ s ∧ 0 ≤ n ∧ s + n ≤ P 3 r.toNat := by
        rw [if_neg hla] at hf
        by_cases c2 : 0 ≤ s ∧ 0 ≤ n ∧ s + n ≤ P 3 r.toNat
        · exact c2
        · rw [if_neg c2] at hf
          omega
      obtain ⟨h1, e1, c1, k1, B1⟩ := s_become (F := F) (a := 29) (b := 26) (by omega) (by omega) (by omega) C.2.2.2.2.2.2.1 B Z (by omega)
      have C1 := C.tr c1 B1
      have E1 := c1.es (by omega) E
      have K17 : P 6 17 ≤ 999 := K.1
      obtain ⟨N, hN⟩ : ∃ N : Nat, n = N := ⟨n.toNat, by omega⟩
      subst hN
      obtain ⟨T, hTd⟩ : ∃ T : Nat → Int, ∀ k, T k = (zI (P 4 (40 * r.toNat + (s.toNat + k)))).toInt := ⟨_, fun _ => rfl⟩
      have hTz : ∀ k, zI (T k) = zI (P 4 (40 * r.toNat + (s.toNat + k))) := fun k => by rw [hTd, zI_of]
      have hTr : ∀ k, -2147483648 ≤ T k ∧ T k < 2147483648 := fun k => by
        rw [hTd]
        exact ⟨Int32.minValue_le_toInt _, Int32.toInt_lt _⟩
      have hT : ∀ k, k < N → ∀ h, CR h P → onc h (some 4) 5 (f_Rw_item (some 4) (zI r) (zI (s + k)) h) = some (zI (T k)) := by
        intro k hk h C
        rw [rw_on C.2.1]
        obtain ⟨la', le', it', y1, y2, y3, y4, y5⟩ := C.2.1
        have Y : RP h la' le' it' := ⟨y1, y2, y3, y4⟩
        obtain ⟨z1, z2, z3, z4, z5, z6⟩ := y5 r.toNat (by omega)
        unfold f_Rw_item
        rw [(rp0 Y).1, bd, l40, zI_mul, zI_add, s_at_in Y.2.1 (by omega) (by omega) (by omega), bd]
        have := (z5 (by omega)).2 (s.toNat + k) (by omega)
        rw [show (r * 40 + (s + k)).toNat = 40 * r.toNat + (s.toNat + k) by omega, this, hTz]
      have w14 := W.2.2.2.2.2.2.1
      have w15 := W.2.2.2.2.2.2.2.1
      have hnd := ndV_r W
      -- what the class answers
      have clsA : ∃ h2, (if w = 0 then
                Option.bind (gfr h1 (some 3) [10] 4) fun x18 =>
                Option.bind (gfi h1 x18 [1] 3) fun x20 =>
                Option.bind (gfr h1 (some 3) [10] 4) fun x22 =>
                Option.bind (gfi h1 x22 [1] 4) fun x24 =>
                Option.bind (onc h1 (some 3) 10 (g_C_waysSeen F 6 (some 3) (zI r) (zI s) (zI (N : Int)) x20 x24 h1)) fun x26 =>
                b_C_seen_108 F (some 3) x26.1 x26.2
              else
                Option.bind (onc h1 (some 3) 10 (f_C_firstSeen F (some 3) (zI r) (zI s) (zI (N : Int)) h1)) fun x28 =>
                b_C_seen_108 F (some 3) x28.1 x28.2) = b_C_seen_108 F (some 3) (zI (if w = 0 then wy (P 6) T N 0 (ndV (P 6)) else fx (P 6) T N 0 576)) h2 ∧ Ch 29 31 h1 h2 ∧ CR h2 P := by
        have B26 := C1.2.2.2.2.2.1
        obtain ⟨z0, z1, z2, z3, z4, -⟩ := b_g B26.1.1
        by_cases c : w = 0
        · obtain ⟨u', h2, e2, c2, C2, -⟩ := c_ws (F := F) (P := P) (T := T) (r := r) (s := s) (n := N) (by omega) (by omega) hT hTr w4 N 0 6 (by omega) (by omega) h1 (P 6) (P 6 14) (P 6 15) E1 C1 B1 W Z (by omega) (fun q _ _ _ => rfl) w14 w15
          rw [show s + ((0 : Nat) : Int) = s by omega, show 24 * P 6 14 + 3 * P 6 15 + P 6 17 % 3 = ndV (P 6) from rfl] at e2
          refine ⟨h2, ?_, c2, C2⟩
          rw [if_pos c, if_pos c, cg4 C1.1, bd, z3, bd, bd, z4, bd, co_on C1.1, e2, bd]
        · obtain ⟨u', h2, e2, c2, C2, -⟩ := c_first (F := F) (P := P) (T := T) (r := r) (s := s) (n := N) (by omega) (by omega) hT hTr W K17 (10 * (P 6 4).toNat) 0 F h1 (P 6) (by omega) (by omega) E1 C1 B1 W Z rfl (fun q _ _ _ => rfl) rfl
          refine ⟨h2, ?_, c2, C2⟩
          rw [if_neg c, if_neg c, co_on C1.1]
          have e3 : f_C_firstSeen F (some 3) (zI r) (zI s) (zI (N : Int)) h1 = some (zI (fx (P 6) T N 0 576), h2) := by
            unfold fx
            rw [if_pos ⟨rfl, hnd.2⟩]
            exact e2
          rw [e3, bd]
      obtain ⟨h2, e2, c2, C2⟩ := clsA
      obtain ⟨h3, e3, c3, C3⟩ := c_sound C2.1 (zI (if w = 0 then wy (P 6) T N 0 (ndV (P 6)) else fx (P 6) T N 0 576))
      have hall : Ch 3 31 h h3 := (c1.w (by omega) (by omega)).tr ((c2.w (by omega) (by omega)).tr (c3.w (by omega) (by omega)))
      obtain ⟨g0, e0, b0, N0⟩ := mr_pf (M.fr hall (by omega)) 0 rfl 0
      have N0 : Mr g0 (th P) := N0
      have A38 : g0.1 38 = aZ 320 (P 4) := N0.2 4 (by omega) (by omega)
      have A40 : g0.1 40 = aZ 42 (P 6) := N0.2 6 (by omega) (by omega)
      have A47 : g0.1 47 = aZ 2880 (P 13) := N0.2 13 (by omega) (by omega)
      have hit : ∀ k : Nat, k < N → ∀ ww, ald (hW g0 ww) (some 38) 0 ((((40 : Int32) * zI r) + zI s) + zI (k : Int)) = some (zI (T k)) := by
        intro k hk ww
        rw [l40, zI_mul, zI_add, zI_add, aldZ (n := 320) (f := P 4) ((hW_n (by decide)).trans A38) (by omega) (by omega) (by omega), hTz]
        rw [show (40 * r + s + k).toNat = 40 * r.toNat + (s.toNat + k) by omega]
      obtain ⟨ww, q1⟩ := s74 (F := F) (r := r) (s := s) (w := w) (K := th P 0) (it := P 4) (by omega) (n := N) (by omega) cw N0.1 A40 W hit hTr (N + 1) F (P 13) (by omega) (by omega) (fun z => absurd z (by omega))
      rw [if_neg (by omega), show (((N + 1 : Nat) : Int) - 1) = (N : Int) by omega, show hW g0 (P 13) = g0 by unfold hW; rw [← A47, up_id]] at q1
      obtain ⟨b1, N1⟩ := mr_ar N0 13 (c := 47) rfl (by omega) (by omega) ww
      have b1 : Ch 34 47 g0 (hW g0 ww) := b1
      have N1 : Mr (hW g0 ww) (upR (th P) 13 ww) := N1
      obtain ⟨g2, e4, b2, N2⟩ := m_is N1 (zI (if w = 0 then wy (P 6) T N 0 (ndV (P 6)) else fx (P 6) T N 0 576))
      refine ⟨zI (if w = 0 then wy (P 6) T N 0 (ndV (P 6)) else fx (P 6) T N 0 576), h3, g2, _, preC _ ?_, ?_, J.fin (hall.es (by omega) E) (P1 := fd P 0) (C2.co c3 C3) (D.fr hall (by omega)) (Q := fd (upR (th P) 13 ww) 0) I (b0.tr (b1.tr b2)) N2 ⟨⟨rfl, rfl, rfl, rfl, rfl, rfl, rfl, rfl, rfl⟩, rfl, rfl, rfl, rfl, rfl⟩, Gr_2 hall (b0.tr (b1.tr b2)) (by omega) (by omega)⟩
      · rw [if_pos cf, e1, bd, e2]
        unfold b_C_seen_108
        rw [co_on C2.1, e3]
        rfl
      · rw [preM h3 g0 e0 N0, if_pos (by omega), show (-1000000 : Int32) = zI (-1000000) from rfl, q1]
        unfold b_M_seen_344
        rw [mr_on N1, e4]
        rfl
    · obtain ⟨h1, e1, c1, hg⟩ := X.find fnum
      obtain ⟨g, e, c, N⟩ := mr_pf (M.fr c1 (by omega)) 0 rfl 0
      obtain ⟨h2, e2, c2, J2⟩ := hg g c N
      refine ⟨zI (-1000010 - fnum), h1, h2, _, preC _ ?_, ?_, J2, Gr_2 c1 (c.tr c2) (by omega) (by omega)⟩
      · rw [if_neg cf, e1]
        rfl
      · rw [preM h1 g e N, if_neg (by omega), e2]
        rfl
  · obtain ⟨g, e, c, X'⟩ := X.thr
    have M' := X'.2.1
    have A0 : g.1 40 = aZ 42 (P 6) := M'.2 6 (by omega) (by omega)
    refine ⟨if P 6 0 = 0 then -1000002 else -1000001, h, g, th P, ?_, ?_, X', Gr_eq c (by omega)⟩
    · unfold f_C_seen
      rw [cf8 C.1, bd]
      simp only [x0, iR, hw, xn1, xn4]
      by_cases c0 : P 6 0 = 0
      · rw [if_pos c0, if_pos c0]
      · rw [if_neg c0, if_neg c0]
        by_cases cr : 0 ≤ r ∧ r < 8
        · rw [if_neg (show ¬ ¬ (0 ≤ r ∧ r < 8) from fun z => z cr)]
          by_cases cn0 : n < 1
          · rw [if_pos cn0]
          · rw [if_neg cn0]
            by_cases cn1 : 4 < n
            · rw [if_pos cn1]
            · rw [if_neg cn1, if_pos (fun z => cb ⟨c0, cr, ⟨by omega, by omega⟩, z⟩)]
        · rw [if_pos cr]
    · unfold f_M_seen
      rw [e, bd, mg15 M', bd, aldL A0 0 0 rfl (by decide) (by decide), bd]
      simp only [x0, iR', hinn, hinw]
      by_cases c0 : P 6 0 = 0
      · rw [if_pos c0, if_pos c0]
      · rw [if_neg c0, if_neg c0]
        by_cases cr : 0 ≤ r ∧ r < 8
        · rw [if_neg (show ¬ ¬ (0 ≤ r ∧ r < 8) from fun z => z cr)]
          by_cases cn0 : 1 ≤ n ∧ n ≤ 4
          · rw [if_neg (show ¬ ¬ (1 ≤ n ∧ n ≤ 4) from fun z => z cn0), if_pos (fun z => cb ⟨c0, cr, cn0, z⟩)]
          · rw [if_pos cn0]
        · rw [if_pos cr]
