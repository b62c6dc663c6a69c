/-! ===== set, copy, drop, feed, as ===== -/
section
variable {h : MH} {P : Nat → Nat → Int} {la le it : Nat → Int}
theorem c_missing (X : RO h la le it) {r : Int} (h1 : 0 ≤ r) (h2 : r < 8) : (la r.toNat ≠ 0 → f_Rw_isMissing (some 4) (zI r) h = some 0) ∧ (la r.toNat = 0 → f_Rw_isMissing (some 4) (zI r) h = some 1) := by
  have e := s_isMissing X (r := r) (by omega) (by omega)
  refine ⟨fun z => ?_, fun z => ?_⟩
  · rw [e, if_pos ⟨h1, h2, z⟩]
  · rw [e, if_neg (fun y => y.2.2 z)]
theorem c_holds (X : RO h la le it) {r i n : Int} (h1 : 0 ≤ r) (h2 : r < 8) (hl : la r.toNat ≠ 0) (i1 : -2147483648 ≤ i) (i2 : i < 2147483648) (n1 : -2147483648 ≤ n) (n2 : n < 2147483648) : f_Rw_holds (some 4) (zI r) (zI i) (zI n) h = some (if 0 ≤ i ∧ 0 ≤ n ∧ i + n ≤ le r.toNat then 1 else 0) := by
  obtain ⟨la', le', it', x1, x2, x3, x4, x5⟩ := X
  obtain ⟨y1, y2, y3, y4, y5, y6⟩ := x5 r.toNat (by omega)
  obtain ⟨z1, -⟩ := y5 (by omega)
  have hat := s_at_in x4 h1 (show r < (8 : Nat) by omega) (by omega)
  rw [z1] at hat
  have hg : gfr h (some 4) [5] 2 = some (some 7) := gfr_o x1 rfl rfl
  have e1 : zI i < (0 : Int32) ↔ i < 0 := zI_lt (b := 0) i1 i2 (by omega) (by omega)
  have e2 : zI n < (0 : Int32) ↔ n < 0 := zI_lt (b := 0) n1 n2 (by omega) (by omega)
  unfold f_Rw_holds
  simp only [hg, hat, bd, e1, e2, zI_sub]
  by_cases c1 : i < 0
  · rw [if_pos c1, if_neg (show ¬ (0 ≤ i ∧ 0 ≤ n ∧ i + n ≤ le r.toNat) by omega)]
  · rw [if_neg c1]
    by_cases c2 : n < 0
    · rw [if_pos c2, if_neg (show ¬ (0 ≤ i ∧ 0 ≤ n ∧ i + n ≤ le r.toNat) by omega)]
    · rw [if_neg c2]
      have e3 : zI (le r.toNat) < zI n ↔ le r.toNat < n := zI_lt (by omega) (by omega) (by omega) (by omega)
      simp only [e3]
      by_cases c3 : le r.toNat < n
      · rw [if_pos c3, if_neg (show ¬ (0 ≤ i ∧ 0 ≤ n ∧ i + n ≤ le r.toNat) by omega)]
      · have e4 : zI (le r.toNat - n) < zI i ↔ le r.toNat - n < i := zI_lt (by omega) (by omega) (by omega) (by omega)
        rw [if_neg c3]
        simp only [e4]
        by_cases c4 : le r.toNat - n < i
        · rw [if_pos c4, if_neg (show ¬ (0 ≤ i ∧ 0 ≤ n ∧ i + n ≤ le r.toNat) by omega)]
        · rw [if_neg c4, if_pos (show 0 ≤ i ∧ 0 ≤ n ∧ i + n ≤ le r.toNat by omega)]
theorem m_isPart (M : Mr h P) {r i n : Int} (h1 : 0 ≤ r) (h2 : r < 8) (hl : 0 ≤ P 3 r.toNat ∧ P 3 r.toNat ≤ 40) (i1 : -2147483648 ≤ i) (i2 : i < 2147483648) (n1 : -2147483648 ≤ n) (n2 : n < 2147483648) : f_M_isPart (some 34) (zI r) (zI i) (zI n) h = some (if 0 ≤ i ∧ 0 ≤ n ∧ i + n ≤ P 3 r.toNat then 1 else 0) := by
  have A : h.1 37 = aZ 8 (P 3) := M.2 3 (by omega) (by omega)
  have hat := aldZ A h1 (show r < (8 : Nat) by omega) (by omega)
  have e1 : zI i < (0 : Int32) ↔ i < 0 := zI_lt (b := 0) i1 i2 (by omega) (by omega)
  have e2 : zI n < (0 : Int32) ↔ n < 0 := zI_lt (b := 0) n1 n2 (by omega) (by omega)
  unfold f_M_isPart
  simp only [mg11 M, hat, bd, e1, e2, zI_sub]
  by_cases c1 : i < 0
  · rw [if_pos c1, if_neg (show ¬ (0 ≤ i ∧ 0 ≤ n ∧ i + n ≤ P 3 r.toNat) by omega)]
  · rw [if_neg c1]
    by_cases c2 : n < 0
    · rw [if_pos c2, if_neg (show ¬ (0 ≤ i ∧ 0 ≤ n ∧ i + n ≤ P 3 r.toNat) by omega)]
    · rw [if_neg c2]
      have e3 : zI (P 3 r.toNat) < zI i ↔ P 3 r.toNat < i := zI_lt (by omega) (by omega) (by omega) (by omega)
      simp only [e3]
      by_cases c3 : P 3 r.toNat < i
      · rw [if_pos c3, if_neg (show ¬ (0 ≤ i ∧ 0 ≤ n ∧ i + n ≤ P 3 r.toNat) by omega)]
      · have e4 : zI (P 3 r.toNat - i) < zI n ↔ P 3 r.toNat - i < n := zI_lt (by omega) (by omega) (by omega) (by omega)
        rw [if_neg c3]
        simp only [e4]
        by_cases c4 : P 3 r.toNat - i < n
        · rw [if_pos c4, if_neg (show ¬ (0 ≤ i ∧ 0 ≤ n ∧ i + n ≤ P 3 r.toNat) by omega)]
        · rw [if_neg c4, if_pos (show 0 ≤ i ∧ 0 ≤ n ∧ i + n ≤ P 3 r.toNat by omega)]
/-- the reference's lanes and lengths are what they are -/
theorem RO.r (X : RO h la le it) {r : Nat} (hr : r < 8) : (0 ≤ la r ∧ la r ≤ 3) ∧ 0 ≤ le r ∧ le r ≤ 40 := by
  obtain ⟨la', le', it', x1, x2, x3, x4, x5⟩ := X
  obtain ⟨y1, y2, y3, y4, y5, y6⟩ := x5 r hr
  omega
def nrw (l : Int) (v : Int32) : Int32 := if l = 1 then Int8.toInt32 (Int32.toInt8 v) else if l = 2 then Int16.toInt32 (Int32.toInt16 v) else v
end
theorem s_set (i j k : Int32) : Ok (f_C_set (some 3) i j k) (f_M_set (some 34) i j k) := by
  intro h P X
  obtain ⟨r, r1, r2, rfl⟩ := i_ex i
  obtain ⟨p, p1, p2, rfl⟩ := i_ex j
  obtain ⟨iR, iR'⟩ := isRow_i r1 r2
  by_cases cr : 0 ≤ r ∧ r < 8
  · have hla := (X.2.2.1.2.1.r (r := r.toNat) (by omega)).1
    have hle := (X.2.2.1.2.1.r (r := r.toNat) (by omega)).2
    have C := X.2.2.1
    have hon := rw_on C.2.1 (α := Int32)
    have hon2 := rw_on C.2.1 (α := Int32 × MH)
    obtain ⟨hm1, hm2⟩ := c_missing C.2.1 cr.1 cr.2
    have x0 : zI (P 2 r.toNat) = (0 : Int32) ↔ P 2 r.toNat = 0 := zI_eq (b := 0) (by omega) (by omega) (by omega) (by omega)
    by_cases c0 : P 2 r.toNat = 0
    · obtain ⟨h1, e1, c1, hg⟩ := X.find 1
      obtain ⟨g, e, c, M⟩ := mr_pf (X.2.1.fr c1 (by omega)) 0 rfl 0
      obtain ⟨h2, e2, c2, J2⟩ := hg g c M
      have A : g.1 36 = aZ 8 (P 2) := M.2 2 (by omega) (by omega)
      refine ⟨zI (-1000010 - 1), h1, h2, _, ?_, ?_, J2, Gr_2 c1 (c.tr c2) (by omega) (by omega)⟩
      · unfold f_C_set
        simp only [iR]
        rw [if_neg (show ¬ ¬ (0 ≤ r ∧ r < 8) from fun z => z cr), cg0 C.1, bd, hon, hm2 c0, bd, if_neg (by decide), co_on C.1, show (1 : Int32) = zI 1 from rfl, e1]
        rfl
      · unfold f_M_set
        rw [show (Value.int (0 : Int32)) = Value.int (zI 0) from rfl, e, bd]
        simp only [iR']
        rw [if_neg (show ¬ ¬ (0 ≤ r ∧ r < 8) from fun z => z cr), mg10 M, bd, aldZ A cr.1 (by omega) (by omega), bd]
        simp only [x0]
        rw [if_pos c0, mr_on M, show (1 : Int32) = zI 1 from rfl, e2]
        rfl
    · have hh := c_holds C.2.1 cr.1 cr.2 c0 p1 p2 (n := 1) (by omega) (by omega)
      by_cases cp : 0 ≤ p ∧ p < P 3 r.toNat
      · obtain ⟨E, M, -, D, I⟩ := id X
        obtain ⟨la', le', it', y1, y2, y3, y4, y5⟩ := C.2.1
        have Y : RP h la' le' it' := ⟨y1, y2, y3, y4⟩
        obtain ⟨z1, z2, z3, z4, z5, z6⟩ := y5 r.toNat (by omega)
        obtain ⟨q, q1, q2, hq⟩ := i_ex (nrw (P 2 r.toNat) k)
        have ep := s_put Y.2.1 (by omega) (i := r * 40 + p) (x := q) (by omega) (by omega) (by omega)
        obtain ⟨Y1, d1⟩ := rp_it Y (upI it' (r * 40 + p).toNat q)
        have hst : f_Rw_store (some 4) (zI r) (zI p) k h = some (zI q, mj_up h 5 (aZ 320 (upI it' (r * 40 + p).toNat q))) := by
          have hs32 : ∀ s0 : Int32, s0 = zI q → b_Rw_store_32 (some 4) (zI r) (zI p) s0 h = some (zI q, mj_up h 5 (aZ 320 (upI it' (r * 40 + p).toNat q))) := by
            intro s0 hs
            unfold b_Rw_store_32
            rw [(rp0 Y).1, bd, l40, zI_mul, zI_add, hs, ep]
            rfl
          have w0 : zI (la' r.toNat) = (0 : Int32) ↔ la' r.toNat = 0 := zI_eq (b := 0) (by omega) (by omega) (by omega) (by omega)
          have w1 : zI (la' r.toNat) = (1 : Int32) ↔ la' r.toNat = 1 := zI_eq (b := 1) (by omega) (by omega) (by omega) (by omega)
          unfold f_Rw_store
          rw [(rp0 Y).2.1, bd, s_at_in Y.2.2.1 cr.1 (by omega) (by omega), bd]
          simp only [w0, w1]
          unfold nrw at hq
          by_cases d1 : la' r.toNat = 0
          · rw [if_pos d1]
            rw [if_pos (show P 2 r.toNat = 1 by omega)] at hq
            exact hs32 _ hq
          · rw [if_neg d1]
            rw [if_neg (show ¬ P 2 r.toNat = 1 by omega)] at hq
            by_cases d2 : la' r.toNat = 1
            · rw [if_pos d2]
              rw [if_pos (show P 2 r.toNat = 2 by omega)] at hq
              exact hs32 _ hq
            · rw [if_neg d2]
              rw [if_neg (show ¬ P 2 r.toNat = 2 by omega)] at hq
              exact hs32 _ hq
        have hC1 : CO (mj_up h 5 (aZ 320 (upI it' (r * 40 + p).toNat q))) (P 6 0) (P 0 13) := C.1.fr d1 (by omega)
        obtain ⟨h1, es, cs, Cs⟩ := c_sound hC1 (zI q)
        have dall : Ch 3 7 h h1 := (d1.w (by omega) (by omega)).tr (cs.w (by omega) (by omega))
        have M1 : Mr h1 P := M.fr dall (by omega)
        obtain ⟨g0, e0, b0, N0⟩ := mr_pf M1 0 rfl 0
        obtain ⟨g1, e1, b1, N1⟩ := mr_st N0 4 (c := 38) (k := 40 * r + p) rfl (by omega) (by omega) q (by omega) (show 40 * r + p < (320 : Nat) by omega)
        obtain ⟨g2, e2, b2, N2⟩ := m_is N1 (zI q)
        have A2 : g0.1 36 = aZ 8 (P 2) := N0.2 2 (by omega) (by omega)
        have A3 : g0.1 37 = aZ 8 (P 3) := N0.2 3 (by omega) (by omega)
        have A4 : g1.1 38 = aZ 320 (upI (P 4) (40 * r + p).toNat q) := N1.2 4 (by omega) (by omega)
        have e1' : ast g0 (some 38) 0 (zI (40 * r + p)) (zI q) = some g1 := e1
        refine ⟨zI q, h1, g2, _, ?_, ?_, J.fin (dall.es (by omega) E) (P1 := fd (upR P 4 (upI (P 4) (40 * r + p).toNat q)) 0) ?_ (D.fr dall (by omega)) ?_ (b0.tr (b1.tr b2)) N2 ⟨⟨rfl, rfl, rfl, rfl, rfl, rfl, rfl, rfl, rfl⟩, rfl, rfl, rfl, rfl, rfl⟩, Gr_2 dall (b0.tr (b1.tr b2)) (by omega) (by omega)⟩
        · unfold f_C_set
          simp only [iR]
          rw [if_neg (show ¬ ¬ (0 ≤ r ∧ r < 8) from fun z => z cr), cg0 C.1, bd, hon, hm1 c0, bd, if_pos rfl, show (1 : Int32) = zI 1 from rfl, bd, hon, hh, bd, if_pos (show 0 ≤ p ∧ (0 : Int) ≤ 1 ∧ p + 1 ≤ P 3 r.toNat by omega), if_neg (by decide), bd, hon2, hst, bd, co_on hC1, es]
          rfl
        · have hin : f_M_in (zI p) (zI 0) (zI (P 3 r.toNat - 1)) = if 0 ≤ p ∧ p ≤ P 3 r.toNat - 1 then 1 else 0 := s_M_in p1 p2 (by omega) (by omega) (by omega) (by omega)
          have hnar : f_M_narrow (zI (P 2 r.toNat)) k = zI q := by
            have w1 : zI (P 2 r.toNat) = (1 : Int32) ↔ P 2 r.toNat = 1 := zI_eq (b := 1) (by omega) (by omega) (by omega) (by omega)
            have w2 : zI (P 2 r.toNat) = (2 : Int32) ↔ P 2 r.toNat = 2 := zI_eq (b := 2) (by omega) (by omega) (by omega) (by omega)
            unfold f_M_narrow
            simp only [w1, w2]
            rw [← hq]
            rfl
          unfold f_M_set
          rw [show (Value.int (0 : Int32)) = Value.int (zI 0) from rfl, e0, bd]
          simp only [iR']
          rw [if_neg (show ¬ ¬ (0 ≤ r ∧ r < 8) from fun z => z cr), mg10 N0, bd, aldZ A2 cr.1 (by omega) (by omega), bd]
          simp only [x0]
          rw [if_neg c0, mg11 N0, bd, aldZ A3 cr.1 (by omega) (by omega), bd, l1, zI_sub, show f_M_in (zI p) (0 : Int32) (zI (P 3 r.toNat - 1)) = if 0 ≤ p ∧ p ≤ P 3 r.toNat - 1 then 1 else 0 from hin, if_pos (show 0 ≤ p ∧ p ≤ P 3 r.toNat - 1 by omega), if_neg (by decide), mg12 N0, bd, bd, aldZ A2 cr.1 (by omega) (by omega), bd, hnar, l40, zI_mul, zI_add, e1', bd, mg12 N1, bd, aldZ A4 (k := 40 * r + p) (by omega) (by omega) (by omega), upI_s, bd, mr_on N1, e2]
          rfl
        · refine CR.co (CR.rows C d1 (Q := upR P 4 (upI (P 4) (40 * r + p).toNat q)) ⟨la', le', upI it' (r * 40 + p).toNat q, Y1.1, Y1.2.1, Y1.2.2.1, Y1.2.2.2, ?_⟩ ⟨⟨rfl, rfl, rfl, rfl, rfl, rfl⟩, rfl, rfl, rfl, rfl, rfl⟩) cs Cs
          intro s hs
          obtain ⟨w1, w2, w3, w4, w5, w6⟩ := y5 s hs
          refine ⟨w1, w2, w3, w4, fun z => ⟨(w5 z).1, fun t ht => ?_⟩, w6⟩
          have ht : (t : Int) < P 3 s := ht
          show upI it' (r * 40 + p).toNat q (40 * s + t) = upI (P 4) (40 * r + p).toNat q (40 * s + t)
          rw [show r * 40 + p = 40 * r + p by omega]
          by_cases e : 40 * s + t = (40 * r + p).toNat
          · rw [e, upI_s, upI_s]
          · rw [upI_n _ _ e, upI_n _ _ e]
            exact (w5 z).2 t ht
        · exact I
      · obtain ⟨h1, e1, c1, hg⟩ := X.find 2
        obtain ⟨g, e, c, M⟩ := mr_pf (X.2.1.fr c1 (by omega)) 0 rfl 0
        obtain ⟨h2, e2, c2, J2⟩ := hg g c M
        have A : g.1 36 = aZ 8 (P 2) := M.2 2 (by omega) (by omega)
        have A3 : g.1 37 = aZ 8 (P 3) := M.2 3 (by omega) (by omega)
        refine ⟨zI (-1000010 - 2), h1, h2, _, ?_, ?_, J2, Gr_2 c1 (c.tr c2) (by omega) (by omega)⟩
        · unfold f_C_set
          simp only [iR]
          rw [if_neg (show ¬ ¬ (0 ≤ r ∧ r < 8) from fun z => z cr), cg0 C.1, bd, hon, hm1 c0, bd, if_pos rfl, show (1 : Int32) = zI 1 from rfl, bd, hon, hh, bd, if_neg (show ¬ (0 ≤ p ∧ (0 : Int) ≤ 1 ∧ p + 1 ≤ P 3 r.toNat) by omega), if_pos rfl, co_on C.1, show (2 : Int32) = zI 2 from rfl, e1]
          rfl
        · have hin : f_M_in (zI p) (zI 0) (zI (P 3 r.toNat - 1)) = if 0 ≤ p ∧ p ≤ P 3 r.toNat - 1 then 1 else 0 := s_M_in p1 p2 (by omega) (by omega) (by omega) (by omega)
          unfold f_M_set
          rw [show (Value.int (0 : Int32)) = Value.int (zI 0) from rfl, e, bd]
          simp only [iR']
          rw [if_neg (show ¬ ¬ (0 ≤ r ∧ r < 8) from fun z => z cr), mg10 M, bd, aldZ A cr.1 (by omega) (by omega), bd]
          simp only [x0]
          rw [if_neg c0, mg11 M, bd, aldZ A3 cr.1 (by omega) (by omega), bd, l1, zI_sub, show f_M_in (zI p) (0 : Int32) (zI (P 3 r.toNat - 1)) = if 0 ≤ p ∧ p ≤ P 3 r.toNat - 1 then 1 else 0 from hin, if_neg (show ¬ (0 ≤ p ∧ p ≤ P 3 r.toNat - 1) by omega), if_pos rfl, mr_on M, show (2 : Int32) = zI 2 from rfl, e2]
          rfl
  · obtain ⟨g, e, c, X'⟩ := X.thr
    refine ⟨-1000001, h, g, th P, ?_, ?_, X', Gr_eq c (by omega)⟩
    · unfold f_C_set
      simp only [iR]
      rw [if_pos cr]
    · unfold f_M_set
      rw [e, bd]
      simp only [iR']
      rw [if_pos cr]
