/-! ===== drop, feed, as ===== -/
theorem s_drop (i : Int32) : Ok (f_C_drop (some 3) i) (f_M_drop (some 34) i) := by
  intro h P X
  obtain ⟨r, r1, r2, rfl⟩ := i_ex i
  obtain ⟨iR, iR'⟩ := isRow_i r1 r2
  by_cases cr : 0 ≤ r ∧ r < 8
  · have hla := (X.2.2.1.2.1.r (r := r.toNat) (by omega)).1
    have C := X.2.2.1
    have hon := rw_on C.2.1 (α := Int32)
    have hon2 := rw_on C.2.1 (α := Int32 × MH)
    obtain ⟨hm1, hm2⟩ := c_missing C.2.1 cr.1 cr.2
    have x0 : zI (P 2 r.toNat) = (0 : Int32) ↔ P 2 r.toNat = 0 := zI_eq (b := 0) (by omega) (by omega) (by omega) (by omega)
    by_cases c0 : P 2 r.toNat = 0
    · obtain ⟨h1, e1, c1, hg⟩ := X.find 1
      obtain ⟨g, e, c, M⟩ := mr_pf (X.2.1.fr c1 (by omega)) 0 rfl 0
      obtain ⟨h2, e2, c2, J2⟩ := hg g c M
      have A : g.1 36 = aZ 8 (P 2) := M.2 2 (by omega) (by omega)
      refine ⟨zI (-1000010 - 1), h1, h2, _, ?_, ?_, J2, Gr_2 c1 (c.tr c2) (by omega) (by omega)⟩
      · unfold f_C_drop
        simp only [iR]
        rw [if_neg (show ¬ ¬ (0 ≤ r ∧ r < 8) from fun z => z cr), cg0 C.1, bd, hon, hm2 c0, bd, if_neg (by decide), co_on C.1, show (1 : Int32) = zI 1 from rfl, e1]
        rfl
      · unfold f_M_drop
        rw [show (Value.int (0 : Int32)) = Value.int (zI 0) from rfl, e, bd]
        simp only [iR']
        rw [if_neg (show ¬ ¬ (0 ≤ r ∧ r < 8) from fun z => z cr), mg10 M, bd, aldZ A cr.1 (by omega) (by omega), bd]
        simp only [x0]
        rw [if_pos c0, mr_on M, show (1 : Int32) = zI 1 from rfl, e2]
        rfl
    · obtain ⟨E, M, -, D, I⟩ := id X
      obtain ⟨la', le', it', y1, y2, y3, y4, y5⟩ := C.2.1
      have Y : RP h la' le' it' := ⟨y1, y2, y3, y4⟩
      obtain ⟨z1, z2, z3, z4, z5, z6⟩ := y5 r.toNat (by omega)
      have hsz := (z5 (by omega)).1
      have ep1 := s_put Y.2.2.1 (by omega) (i := r) (x := -1) cr.1 (by omega) (by omega)
      obtain ⟨Y1, d1⟩ := rp_la Y (upI la' r.toNat (-1))
      have ep2 := s_put Y1.2.2.2 (by omega) (i := r) (x := 0) cr.1 (by omega) (by omega)
      obtain ⟨Y2, d2⟩ := rp_le Y1 (upI le' r.toNat 0)
      have hC1 : CO (mj_up (mj_up h 6 (aZ 8 (upI la' r.toNat (-1)))) 7 (aZ 8 (upI le' r.toNat 0))) (P 6 0) (P 0 13) := C.1.fr (d1.tr d2) (by omega)
      obtain ⟨h1, es, cs, Cs⟩ := c_sound hC1 (zI (P 3 r.toNat))
      have dall : Ch 3 7 h h1 := ((d1.tr d2).w (by omega) (by omega)).tr (cs.w (by omega) (by omega))
      have M1 : Mr h1 P := M.fr dall (by omega)
      obtain ⟨g0, e0, b0, N0⟩ := mr_pf M1 0 rfl 0
      obtain ⟨g1, e1, b1, N1⟩ := mr_st N0 2 (c := 36) (k := r) rfl (by omega) (by omega) 0 cr.1 (show r < (8 : Nat) by omega)
      obtain ⟨g2, e2, b2, N2⟩ := m_is N1 (zI (P 3 r.toNat))
      have A2 : g0.1 36 = aZ 8 (P 2) := N0.2 2 (by omega) (by omega)
      have A3 : g1.1 37 = aZ 8 (P 3) := N1.2 3 (by omega) (by omega)
      have e1' : ast g0 (some 36) 0 (zI r) (zI 0) = some g1 := e1
      refine ⟨zI (P 3 r.toNat), h1, g2, _, ?_, ?_, J.fin (dall.es (by omega) E) (P1 := fd (upR P 2 (upI (P 2) r.toNat 0)) 0) ?_ (D.fr dall (by omega)) ?_ (b0.tr (b1.tr b2)) N2 ⟨⟨rfl, rfl, rfl, rfl, rfl, rfl, rfl, rfl, rfl⟩, rfl, rfl, rfl, rfl, rfl⟩, Gr_2 dall (b0.tr (b1.tr b2)) (by omega) (by omega)⟩
      · unfold f_C_drop f_Rw_remove
        simp only [iR]
        rw [if_neg (show ¬ ¬ (0 ≤ r ∧ r < 8) from fun z => z cr), cg0 C.1, bd, hon, hm1 c0, bd, if_pos rfl, bd, hon2, (rp0 Y).2.2, bd, s_at_in Y.2.2.2 cr.1 (by omega) (by omega), bd, (rp0 Y).2.1, bd, lm1, ep1, bd, (rp0 Y1).2.2, bd, show (0 : Int32) = zI 0 from rfl, ep2, bd, bd, co_on hC1, hsz, es]
        rfl
      · unfold f_M_drop
        rw [show (Value.int (0 : Int32)) = Value.int (zI 0) from rfl, e0, bd]
        simp only [iR']
        rw [if_neg (show ¬ ¬ (0 ≤ r ∧ r < 8) from fun z => z cr), mg10 N0, bd, aldZ A2 cr.1 (by omega) (by omega), bd]
        simp only [x0]
        rw [if_neg c0, bd, show (0 : Int32) = zI 0 from rfl, e1', bd, mg11 N1, bd, aldZ A3 cr.1 (by omega) (by omega), bd, mr_on N1, e2]
        rfl
      · refine CR.co (CR.rows C (d1.tr d2) (Q := upR P 2 (upI (P 2) r.toNat 0)) ⟨upI la' r.toNat (-1), upI le' r.toNat 0, it', Y2.1, Y2.2.1, Y2.2.2.1, Y2.2.2.2, ?_⟩ ⟨⟨rfl, rfl, rfl, rfl, rfl, rfl⟩, rfl, rfl, rfl, rfl, rfl⟩) cs Cs
        intro s hs
        obtain ⟨w1, w2, w3, w4, w5, w6⟩ := y5 s hs
        show upI (P 2) r.toNat 0 s = _ ∧ _
        by_cases e : s = r.toNat
        · rw [e, upI_s, upI_s, upI_s]
          exact ⟨rfl, by omega, by omega, z4, fun z => absurd rfl z, fun _ => rfl⟩
        · rw [upI_n _ _ e, upI_n _ _ e, upI_n _ _ e]
          exact ⟨w1, w2, w3, w4, w5, w6⟩
      · exact I
  · obtain ⟨g, e, c, X'⟩ := X.thr
    refine ⟨-1000001, h, g, th P, ?_, ?_, X', Gr_eq c (by omega)⟩
    · unfold f_C_drop
      simp only [iR]
      rw [if_pos cr]
    · unfold f_M_drop
      rw [e, bd]
      simp only [iR']
      rw [if_pos cr]
theorem CR.tape {h h' : MH} {P : Nat → Nat → Int} (X : CR h P) (c : Ch 8 9 h h') {Q : Nat → Nat → Int} (T : TO h' (Q 1) (Q 0 2) (Q 0 9)) (hq : (Q 6 = P 6 ∧ Q 2 = P 2 ∧ Q 3 = P 3 ∧ Q 4 = P 4 ∧ Q 8 = P 8 ∧ Q 9 = P 9 ∧ Q 10 = P 10 ∧ Q 11 = P 11) ∧ Q 0 13 = P 0 13 ∧ Q 0 18 = P 0 18 ∧ Q 0 22 = P 0 22) : CR h' Q := by
  obtain ⟨x1, x2, x3, x4, x5, x6, x7, x8, x9⟩ := X
  obtain ⟨⟨s6, s2, s3, s4, s8, s9, s10, s11⟩, t13, t18, t22⟩ := hq
  unfold CR
  rw [s6, s2, s3, s4, s8, s9, s10, s11, t13, t18, t22]
  exact ⟨x1.fr c (by omega), x2.fr c (by omega), T, x4.fr c (by omega), x5.fr c (by omega), x6.ch c (by omega) (by omega), x7.ch c (by omega) (by omega), x8.fr c (by omega) (by omega), x9.fr c (by omega)⟩
theorem s_feed (i : Int32) : Ok (f_C_feed (some 3) i) (f_M_feed (some 34) i) := by
  intro h P X
  obtain ⟨k, k1, k2, rfl⟩ := i_ex i
  have C := X.2.2.1
  have hn := X.2.2.2.2.2.2.1
  have ex0 : zI k < (0 : Int32) ↔ k < 0 := zI_lt (b := 0) (by omega) (by omega) (by omega) (by omega)
  have ex1 : zI k ≤ (255 : Int32) ↔ k ≤ 255 := zI_le (b := 255) (by omega) (by omega) (by omega) (by omega)
  have hin : f_M_in (zI k) (0 : Int32) (255 : Int32) = 0 ↔ ¬ (0 ≤ k ∧ k ≤ 255) := by
    rw [show f_M_in (zI k) (0 : Int32) (255 : Int32) = if 0 ≤ k ∧ k ≤ 255 then 1 else 0 from s_M_in (a := 0) (b := 255) k1 k2 (by omega) (by omega) (by omega) (by omega), ite_01]
  have ex2 : zI (P 0 2) < (120 : Int32) ↔ P 0 2 < 120 := zI_lt (b := 120) (by omega) (by omega) (by omega) (by omega)
  have ex3 : zI (P 0 2) = (120 : Int32) ↔ P 0 2 = 120 := zI_eq (b := 120) (by omega) (by omega) (by omega) (by omega)
  obtain ⟨pl, fa, fp, t1, t2⟩ := C.2.2.1
  have ton := fun (x : Option (Int32 × MH)) => onc_o (x := x) t1
  have tg1 : gfi h (some 8) [9] 1 = some (zI (P 0 2)) := gfi_o t1 rfl rfl
  have tg0 : gfr h (some 8) [9] 0 = some (some 9) := gfr_o t1 rfl rfl
  by_cases ck : 0 ≤ k ∧ k ≤ 255
  · by_cases cf : P 0 2 < 120
    · obtain ⟨E, M, -, D, I⟩ := id X
      have ep := s_put t2 (by omega) (i := P 0 2) (x := k) (by omega) (by omega) (by omega)
      have T1 : (mj_up h 9 (aZ 120 (upI (P 1) (P 0 2).toNat k))).1 8 = oB 9 (tF (P 0 2) pl fa fp (P 0 9)) := by rw [up_get, if_neg (by decide)]; exact t1
      have ep2 : pfv (mj_up h 9 (aZ 120 (upI (P 1) (P 0 2).toNat k))) (some 8) [9] 1 (.int (zI (P 0 2 + 1))) = some (mj_up (mj_up h 9 (aZ 120 (upI (P 1) (P 0 2).toNat k))) 8 (oB 9 (tF (P 0 2 + 1) pl fa fp (P 0 9)))) := by
        rw [pfv_o T1 (by show 1 < 6; omega) rfl]
        rfl
      have dall : Ch 8 9 h (mj_up (mj_up h 9 (aZ 120 (upI (P 1) (P 0 2).toNat k))) 8 (oB 9 (tF (P 0 2 + 1) pl fa fp (P 0 9)))) := (Ch_up h _ (by omega) (by omega)).tr (Ch_up _ _ (by omega) (by omega))
      have T2 : (mj_up (mj_up h 9 (aZ 120 (upI (P 1) (P 0 2).toNat k))) 8 (oB 9 (tF (P 0 2 + 1) pl fa fp (P 0 9)))).1 8 = oB 9 (tF (P 0 2 + 1) pl fa fp (P 0 9)) := by rw [up_get, if_pos rfl]
      obtain ⟨h1, hh1⟩ : ∃ h1, h1 = mj_up (mj_up h 9 (aZ 120 (upI (P 1) (P 0 2).toNat k))) 8 (oB 9 (tF (P 0 2 + 1) pl fa fp (P 0 9))) := ⟨_, rfl⟩
      have T3 : h1.1 9 = aZ 120 (upI (P 1) (P 0 2).toNat k) := by rw [hh1, up_get, if_neg (by decide), up_get, if_pos rfl]
      rw [← hh1] at ep2 dall T2
      have C1 : CO h1 (P 6 0) (P 0 13) := C.1.fr dall (by omega)
      have M1 : Mr h1 P := M.fr dall (by omega)
      obtain ⟨g0, e0, b0, N0⟩ := mr_pf M1 0 rfl 0
      obtain ⟨g1, e1, b1, N1⟩ := mr_st N0 1 (c := 35) (k := P 0 2) rfl (by omega) (by omega) k (by omega) (show P 0 2 < (120 : Nat) by omega)
      obtain ⟨g2, e2, b2, N2⟩ := mr_pf N1 2 rfl (P 0 2 + 1)
      have e1' : ast g0 (some 35) 0 (zI (P 0 2)) (zI k) = some g1 := e1
      have m2 : gfi g0 (some 34) [11] 2 = some (zI (P 0 2)) := by have := mf2 N0; exact this
      have m2' : gfi g1 (some 34) [11] 2 = some (zI (P 0 2)) := by have := mf2 N1; exact this
      have m2'' : gfi g2 (some 34) [11] 2 = some (zI (P 0 2 + 1)) := by have := mf2 N2; exact this
      refine ⟨zI (P 0 2 + 1), h1, g2, _, ?_, ?_, J.fin (dall.es (by omega) E) (P1 := upR (upR P 1 (upI (P 1) (P 0 2).toNat k)) 0 (upI (P 0) 2 (P 0 2 + 1))) ?_ (D.fr dall (by omega)) ?_ (b0.tr (b1.tr b2)) N2 ⟨⟨rfl, rfl, rfl, rfl, rfl, rfl, rfl, rfl, rfl⟩, rfl, rfl, rfl, rfl, rfl⟩, Gr_2 dall (b0.tr (b1.tr b2)) (by omega) (by omega)⟩
      · have ton2 : ∀ x : Option Int32, onc h1 (some 8) 9 x = x := fun x => onc_o T2
        have tl : f_T_length (some 8) h1 = some (zI (P 0 2 + 1)) := by
          unfold f_T_length
          rw [gfi_o T2 (k := 1) (x := zI (P 0 2 + 1)) rfl rfl]
          rfl
        have tg1' : gfi (mj_up h 9 (aZ 120 (upI (P 1) (P 0 2).toNat k))) (some 8) [9] 1 = some (zI (P 0 2)) := gfi_o T1 rfl rfl
        unfold f_C_feed f_T_append
        simp only [ex0, ex1]
        rw [if_neg (show ¬ k < 0 by omega), if_pos ck.2, cg1 C.1, bd, ton, tg1, bd]
        simp only [ex2]
        rw [if_pos cf, tg0, bd, bd, ep, bd, tg1', bd, l1, zI_add, ep2, bd, bd]
        rw [if_neg (show ¬ (zI 1 : Int32) = 0 by decide), cg1 C1, bd, ton2, tl]
        rfl
      · unfold f_M_feed
        rw [show (Value.int (0 : Int32)) = Value.int (zI 0) from rfl, e0, bd]
        simp only [hin]
        rw [if_neg (show ¬ ¬ (0 ≤ k ∧ k ≤ 255) from fun z => z ck), m2, bd]
        simp only [ex3]
        rw [if_neg (show ¬ P 0 2 = 120 by omega), mg1 N0, bd, bd, e1', bd, m2', bd, l1, zI_add, e2, bd, m2'']
        rfl
      · exact CR.tape C dall (Q := upR (upR P 1 (upI (P 1) (P 0 2).toNat k)) 0 (upI (P 0) 2 (P 0 2 + 1))) ⟨pl, fa, fp, T2, T3⟩ ⟨⟨rfl, rfl, rfl, rfl, rfl, rfl, rfl, rfl⟩, rfl, rfl, rfl⟩
      · obtain ⟨i1, i2, i3, i4, i5, i6⟩ := I
        refine ⟨i1, i2, ⟨show 0 ≤ P 0 2 + 1 by omega, show P 0 2 + 1 ≤ 120 by omega⟩, fun q hq => ?_, i5, i6⟩
        have hq : (q : Int) < P 0 2 + 1 := hq
        show 0 ≤ upI (P 1) (P 0 2).toNat k q ∧ upI (P 1) (P 0 2).toNat k q ≤ 255
        by_cases e : q = (P 0 2).toNat
        · rw [e, upI_s]; exact ck
        · rw [upI_n _ _ e]; exact i4 q (by omega)
    · obtain ⟨g, e, c, X'⟩ := X.thr
      have m2 : gfi g (some 34) [11] 2 = some (zI (P 0 2)) := by have := mf2 X'.2.1; exact this
      refine ⟨-1000003, h, g, th P, ?_, ?_, X', Gr_eq c (by omega)⟩
      · unfold f_C_feed f_T_append
        simp only [ex0, ex1]
        rw [if_neg (show ¬ k < 0 by omega), if_pos ck.2, cg1 C.1, bd, ton, tg1, bd]
        simp only [ex2]
        rw [if_neg cf]
        rfl
      · unfold f_M_feed
        rw [e, bd]
        simp only [hin]
        rw [if_neg (show ¬ ¬ (0 ≤ k ∧ k ≤ 255) from fun z => z ck), m2, bd]
        simp only [ex3]
        rw [if_pos (show P 0 2 = 120 by omega)]
  · obtain ⟨g, e, c, X'⟩ := X.thr
    refine ⟨-1000001, h, g, th P, ?_, ?_, X', Gr_eq c (by omega)⟩
    · unfold f_C_feed
      simp only [ex0, ex1]
      by_cases c1 : k < 0
      · rw [if_pos c1]
      · rw [if_neg c1, if_neg (show ¬ k ≤ 255 by omega)]
    · unfold f_M_feed
      rw [e, bd]
      simp only [hin]
      rw [if_pos ck]
/-! as -/
def isK (s k : Int) : Bool := k == 0 || (k == s || ((k == 1 && decide (s < 4)) || (k == 4 && s == 5)))
theorem is_tab : (∀ s : Nat, s < 6 → 1 ≤ s → mj_is (sC s) "WideTurn$Swinger" = some (isK s 1) ∧ mj_is (sC s) "WideTurn$Poler" = some (isK s 2) ∧ mj_is (sC s) "WideTurn$Roper" = some (isK s 3) ∧ mj_is (sC s) "WideTurn$Shover" = some (isK s 4) ∧ mj_is (sC s) "WideTurn$Lifter" = some (isK s 5)) := by decide +kernel
theorem s_isOne {h : MH} {p : Nat} {s n mi : Int} (H : h.1 p = hC s n mi) (h1 : 1 ≤ s) (h2 : s ≤ 5) {k : Int} (k1 : 0 ≤ k) (k2 : k < 6) : f_C_isOne (some p) (zI k) h = some (b2 (isK s k)) := by
  have hc : cls h (some p) = some (sC s) := cls_o H
  have ht := is_tab s.toNat (by omega) (by omega)
  rw [Int.toNat_of_nonneg (by omega)] at ht
  obtain ⟨t1, t2, t3, t4, t5⟩ := ht
  have hb : ∀ b : Bool, Option.bind (mj_b01 (if b = true then (1 : Int32) else 0)) (fun _ => some (if b = true then (1 : Int32) else 0)) = some (b2 b) := by
    intro b
    cases b <;> rfl
  unfold f_C_isOne
  simp only [hc, bd, t1, t2, t3, t4, t5, hb]
  rcases (show k = 0 ∨ k = 1 ∨ k = 2 ∨ k = 3 ∨ k = 4 ∨ k = 5 by omega) with rfl | rfl | rfl | rfl | rfl | rfl
  · rfl
  · rfl
  · rfl
  · rfl
  · rfl
  · rfl
theorem m_as {g : MH} {P : Nat → Nat → Int} (M : Mr g P) (W : Wv (P 6)) {k d : Int} (cd : 0 ≤ d ∧ d < 6) (ck : 0 ≤ k ∧ k < P 6 4) : (Option.bind (gfr g (some 34) [11] 15) fun x7 => Option.bind (ald g x7 0 ((5 : Int32) + zI k)) fun x9 => if zI d = 0 then b_M_as_63 (some 34) (zI k) g else if zI d = x9 then b_M_as_63 (some 34) (zI k) g else if zI d = (1 : Int32) then if x9 < (4 : Int32) then b_M_as_63 (some 34) (zI k) g else b_M_as_53 (some 34) (zI k) (zI d) x9 g else b_M_as_53 (some 34) (zI k) (zI d) x9 g) = b_M_as_68 (some 34) (zI k) (b2 (isK (P 6 (5 + k.toNat)) d)) g := by
  have w4 := W.2.2.2.1
  have w5 := W.2.2.2.2.1 k.toNat (by omega)
  have A : g.1 40 = aZ 42 (P 6) := M.2 6 (by omega) (by omega)
  rw [mg15 M, bd, l5, zI_add, aldZ A (by omega) (by omega) (by omega), bd, show (5 + k).toNat = 5 + k.toNat by omega]
  unfold b_M_as_53 b_M_as_63 b_M_as_67
  rw [show (0 : Int32) = zI 0 from rfl, show (1 : Int32) = zI 1 from rfl, show (4 : Int32) = zI 4 from rfl, show (5 : Int32) = zI 5 from rfl]
  simp (disch := omega) only [zI_eq, zI_lt]
  generalize P 6 (5 + k.toNat) = s at *
  generalize hX : b_M_as_68 (some 34) (zI k) (zI 1) g = X
  generalize hY : b_M_as_68 (some 34) (zI k) (zI 0) g = Y
  have hX' : b_M_as_68 (some 34) (zI k) (b2 true) g = X := hX
  have hY' : b_M_as_68 (some 34) (zI k) (b2 false) g = Y := hY
  clear hX hY
  by_cases e0 : d = 0
  · rw [if_pos e0, e0, ← hX']; rfl
  · rw [if_neg e0]
    have hi0 : (d == 0) = false := by simpa using e0
    unfold isK
    rw [hi0, Bool.false_or]
    by_cases e1 : d = s
    · rw [if_pos e1, ← hX', e1]
      simp
    · rw [if_neg e1]
      have hi1 : (d == s) = false := by simpa using e1
      rw [hi1, Bool.false_or]
      by_cases e2 : d = 1
      · rw [if_pos e2]
        by_cases e3 : s < 4
        · rw [if_pos e3, ← hX', e2, decide_eq_true e3]
          rfl
        · rw [if_neg e3, if_neg (show ¬ d = 4 by omega), ← hY', e2, decide_eq_false e3]
          rfl
      · rw [if_neg e2]
        have hi2 : (d == 1) = false := by simpa using e2
        rw [hi2, Bool.false_and, Bool.false_or]
        by_cases e4 : d = 4
        · rw [if_pos e4, e4]
          by_cases e5 : s = 5
          · rw [if_pos e5, e5, ← hX']; rfl
          · rw [if_neg e5, ← hY']
            have hi5 : (s == 5) = false := by simpa using e5
            rw [hi5]
            rfl
        · rw [if_neg e4, ← hY']
          have hi4 : (d == 4) = false := by simpa using e4
          rw [hi4]
          rfl
theorem s_as (i j : Int32) : Ok (f_C_as (some 3) i j) (f_M_as (some 34) i j) := by
  intro h P X
  obtain ⟨k, k1, k2, rfl⟩ := i_ex i
  obtain ⟨d, d1, d2, rfl⟩ := i_ex j
  have C := X.2.2.1
  have W := X.2.2.2.2.1.1
  have w4 := W.2.2.2.1
  have B := C.2.2.2.2.2.1
  have hw : f_C_within (zI d) (6 : Int32) = 0 ↔ ¬ (0 ≤ d ∧ d < 6) := s_within0 (b := 6) d1 d2 (by omega) (by omega)
  have hin : f_M_in (zI d) (0 : Int32) (5 : Int32) = 0 ↔ ¬ (0 ≤ d ∧ d < 6) := by
    rw [show f_M_in (zI d) (0 : Int32) (5 : Int32) = if 0 ≤ d ∧ d ≤ 5 then 1 else 0 from s_M_in (a := 0) (b := 5) d1 d2 (by omega) (by omega) (by omega) (by omega), ite_01]
    omega
  have hi : ∀ g, Mr g (th P) → f_M_isHand (some 34) (zI k) g = some (if 0 ≤ k ∧ k < P 6 4 then 1 else 0) := fun g M => m_isHand (P := th P) M W k1 k2
  by_cases cb : (0 ≤ k ∧ k < P 6 4) ∧ (0 ≤ d ∧ d < 6)
  · obtain ⟨ck, cd⟩ := cb
    have w5 := W.2.2.2.2.1 k.toNat (by omega)
    rcases c_handAt B.1 W k1 k2 with ⟨c1, -⟩ | ⟨-, p, p1, p2, p3⟩
    · exact absurd ck c1
    · have hone := s_isOne p3 w5.1 w5.2.1 cd.1 cd.2
      cases hk : isK (P 6 (5 + k.toNat)) d with
      | false =>
        obtain ⟨h1, e1, c1, hg⟩ := X.find 3
        obtain ⟨g, e, c, M⟩ := mr_pf (X.2.1.fr c1 (by omega)) 0 rfl 0
        obtain ⟨h2, e2, c2, J2⟩ := hg g c M
        refine ⟨zI (-1000010 - 3), h1, h2, _, ?_, ?_, J2, Gr_2 c1 (c.tr c2) (by omega) (by omega)⟩
        · unfold f_C_as
          simp only [hw]
          rw [cg4 C.1, bd, b_on B.1.1, p1, bd, if_neg (by intro z; cases z), if_neg (show ¬ ¬ (0 ≤ d ∧ d < 6) from fun z => z cd), hone, bd, hk, if_pos (show b2 false = (0 : Int32) from rfl), co_on C.1, show (3 : Int32) = zI 3 from rfl, e1]
          rfl
        · unfold f_M_as
          simp only [hin]
          rw [show (Value.int (0 : Int32)) = Value.int (zI 0) from rfl, e, bd, mr_on M, hi g M, bd, if_pos ck, if_neg (by decide), if_neg (show ¬ ¬ (0 ≤ d ∧ d < 6) from fun z => z cd), show _ = _ from m_as (P := th P) M W cd ck, show isK (th P 6 (5 + k.toNat)) d = _ from hk]
          unfold b_M_as_68
          rw [if_pos (show b2 false = (0 : Int32) from rfl), mr_on M, show (3 : Int32) = zI 3 from rfl, e2]
          rfl
      | true =>
        obtain ⟨E, M0, -, D, I⟩ := id X
        obtain ⟨h1, es, cs, Cs⟩ := c_sound C.1 (zI k)
        obtain ⟨g, e, c, M⟩ := mr_pf (M0.fr cs (by omega)) 0 rfl 0
        obtain ⟨g2, e2, b2', N2⟩ := m_is M (zI k)
        refine ⟨zI k, h1, g2, _, ?_, ?_, J.fin (cs.es (by omega) E) (P1 := fd P 0) (Q := fd (th P) 0) (CR.co C cs Cs) (D.fr cs (by omega)) I (c.tr b2') N2 ⟨⟨rfl, rfl, rfl, rfl, rfl, rfl, rfl, rfl, rfl⟩, rfl, rfl, rfl, rfl, rfl⟩, Gr_2 cs (c.tr b2') (by omega) (by omega)⟩
        · unfold f_C_as
          simp only [hw]
          rw [cg4 C.1, bd, b_on B.1.1, p1, bd, if_neg (by intro z; cases z), if_neg (show ¬ ¬ (0 ≤ d ∧ d < 6) from fun z => z cd), hone, bd, hk, if_neg (by decide), co_on C.1, es]
          rfl
        · unfold f_M_as
          simp only [hin]
          rw [show (Value.int (0 : Int32)) = Value.int (zI 0) from rfl, e, bd, mr_on M, hi g M, bd, if_pos ck, if_neg (by decide), if_neg (show ¬ ¬ (0 ≤ d ∧ d < 6) from fun z => z cd), show _ = _ from m_as (P := th P) M W cd ck, show isK (th P 6 (5 + k.toNat)) d = _ from hk]
          unfold b_M_as_68
          rw [if_neg (by decide), mr_on M, e2]
          rfl
  · obtain ⟨g, e, c, X'⟩ := X.thr
    refine ⟨-1000001, h, g, th P, ?_, ?_, X', Gr_eq c (by omega)⟩
    · unfold f_C_as
      simp only [hw]
      rw [cg4 C.1, bd, b_on B.1.1]
      rcases c_handAt B.1 W k1 k2 with ⟨c1, c2⟩ | ⟨c1, p, p1, p2, p3⟩
      · rw [c2, bd, if_pos rfl]
      · rw [p1, bd, if_neg (by intro z; cases z), if_pos (fun z => cb ⟨c1, z⟩)]
    · unfold f_M_as
      simp only [hin]
      rw [e, bd, mr_on X'.2.1, hi g X'.2.1, bd]
      by_cases ck : 0 ≤ k ∧ k < P 6 4
      · rw [if_pos ck, if_neg (by decide), if_pos (fun z => cb ⟨ck, z⟩)]
      · rw [if_neg ck, if_pos rfl]
