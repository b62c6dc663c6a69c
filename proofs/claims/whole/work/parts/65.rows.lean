/-! ===== the calls with rows, and feed ===== -/
theorem J.fin {h1 h2 : MH} {P1 Q : Nat → Nat → Int} (E : Es h1) (C : CR h1 P1) (D : Dn h1) (I : Iw Q) (c : Ch 34 47 h1 h2) (M : Mr h2 Q) (S : Sp P1 Q) : J h2 Q := ⟨c.es (by omega) E, M, (C.fr c).sp S, D.fr c (by omega), I⟩
theorem Gr_2 {lo hi lo' hi' : Nat} {h h1 h2 : MH} (a : Ch lo hi h h1) (b : Ch lo' hi' h1 h2) (q1 : 3 ≤ lo) (q2 : 3 ≤ lo') : Gr h h1 h2 := by
  have e : h2.2 = h.2 := b.1.trans a.1
  unfold Gr
  rw [e]
  exact ⟨Nat.le_refl _, by omega, Nat.le_refl _, by omega, (b.2 2 (by omega)).trans (a.2 2 (by omega)), a.2 2 (by omega)⟩
def fd (P : Nat → Nat → Int) (n : Int) : Nat → Nat → Int := upR P 0 (upI (P 0) 13 n)
section
variable {h : MH} {P : Nat → Nat → Int}
theorem c_found {t f : Int} (C : CO h t f) (n : Int) : ∃ h', f_C_found (some 3) (zI n) h = some (zI (-1000010 - n), h') ∧ Ch 3 3 h h' ∧ CO h' t n := by
  obtain ⟨h', e, c, C'⟩ := co_p9 C n
  refine ⟨h', ?_, c, C'⟩
  unfold f_C_found
  rw [e, bd, lN10, zI_sub]
theorem c_sound {t f : Int} (C : CO h t f) (x : Int32) : ∃ h', f_C_sound (some 3) x h = some (x, h') ∧ Ch 3 3 h h' ∧ CO h' t 0 := by
  obtain ⟨h', e, c, C'⟩ := co_p9 C 0
  refine ⟨h', ?_, c, C'⟩
  unfold f_C_sound
  rw [show (0 : Int32) = zI 0 from rfl, e]
  rfl
theorem m_finds (M : Mr h P) (n : Int) : ∃ h', f_M_finds (some 34) (zI n) h = some (zI (-1000010 - n), h') ∧ Ch 34 47 h h' ∧ Mr h' (fd P n) := by
  obtain ⟨h', e, c, M'⟩ := mr_pf M 13 rfl n
  refine ⟨h', ?_, c, M'⟩
  unfold f_M_finds
  rw [e, bd, lN10, zI_sub]
theorem m_is (M : Mr h P) (x : Int32) : ∃ h', f_M_is (some 34) x h = some (x, h') ∧ Ch 34 47 h h' ∧ Mr h' (fd P 0) := by
  obtain ⟨h', e, c, M'⟩ := mr_pf M 13 rfl 0
  refine ⟨h', ?_, c, M'⟩
  unfold f_M_is
  rw [show (0 : Int32) = zI 0 from rfl, e]
  rfl
theorem CR.co {h' : MH} {P : Nat → Nat → Int} (X : CR h P) (c : Ch 3 3 h h') {n : Int} (C : CO h' (P 6 0) n) : CR h' (fd P n) := by
  obtain ⟨x1, x2, x3, x4, x5, x6, x7, x8, x9⟩ := X
  exact ⟨C, x2.fr c (by omega), x3.fr c (by omega), x4.fr c (by omega), x5.fr c (by omega), x6.ch c (by omega) (by omega), x7.ch c (by omega) (by omega), x8.fr c (by omega) (by omega), x9.fr c (by omega)⟩
/-- both say a finding -/
theorem J.find (X : J h P) (n : Int) : ∃ h1, f_C_found (some 3) (zI n) h = some (zI (-1000010 - n), h1) ∧ Ch 3 3 h h1 ∧ ∀ g, Ch 34 47 h1 g → Mr g (th P) → ∃ h2, f_M_finds (some 34) (zI n) g = some (zI (-1000010 - n), h2) ∧ Ch 34 47 g h2 ∧ J h2 (fd (th P) n) := by
  obtain ⟨h1, e1, c1, C1⟩ := c_found X.2.2.1.1 n
  refine ⟨h1, e1, c1, fun g cg M => ?_⟩
  obtain ⟨h2, e2, c2, M2⟩ := m_finds M n
  refine ⟨h2, e2, c2, J.fin (c1.es (by omega) X.1) (X.2.2.1.co c1 C1) (X.2.2.2.1.fr c1 (by omega)) (X.2.2.2.2.sp ⟨⟨rfl, rfl, rfl, rfl, rfl, rfl, rfl, rfl, rfl⟩, rfl, rfl, rfl, rfl, rfl⟩ X.2.2.2.2.2.2.2.2.1 X.2.2.2.2.2.2.2.2.2 : Iw (th P)) (cg.tr c2) M2 ⟨⟨rfl, rfl, rfl, rfl, rfl, rfl, rfl, rfl, rfl⟩, rfl, rfl, rfl, rfl, rfl⟩⟩
theorem isRow_i {r : Int} (h1 : -2147483648 ≤ r) (h2 : r < 2147483648) : (f_C_isRow (zI r) = 0 ↔ ¬ (0 ≤ r ∧ r < 8)) ∧ (f_M_isRow (zI r) = 0 ↔ ¬ (0 ≤ r ∧ r < 8)) := by
  refine ⟨s_within0 (b := 8) h1 h2 (by omega) (by omega), ?_⟩
  unfold f_M_isRow
  rw [show f_M_in (zI r) (0 : Int32) (7 : Int32) = if 0 ≤ r ∧ r ≤ 7 then 1 else 0 from s_M_in (a := 0) (b := 7) h1 h2 (by omega) (by omega) (by omega) (by omega), ite_01]
  omega
/-- the class's rows, their parts shown -/
def RP (h : MH) (la' le' it' : Nat → Int) : Prop := h.1 4 = oB 5 [.ref 5, .ref 6, .ref 7] ∧ h.1 5 = aZ 320 it' ∧ h.1 6 = aZ 8 la' ∧ h.1 7 = aZ 8 le'
theorem rp0 {la' le' it' : Nat → Int} (X : RP h la' le' it') : gfr h (some 4) [5] 0 = some (some 5) ∧ gfr h (some 4) [5] 1 = some (some 6) ∧ gfr h (some 4) [5] 2 = some (some 7) := ⟨gfr_o X.1 rfl rfl, gfr_o X.1 rfl rfl, gfr_o X.1 rfl rfl⟩
theorem rp_it {la' le' it' : Nat → Int} (X : RP h la' le' it') (f : Nat → Int) : RP (mj_up h 5 (aZ 320 f)) la' le' f ∧ Ch 4 7 h (mj_up h 5 (aZ 320 f)) := ⟨⟨by rw [up_get, if_neg (by decide)]; exact X.1, by rw [up_get, if_pos rfl], by rw [up_get, if_neg (by decide)]; exact X.2.2.1, by rw [up_get, if_neg (by decide)]; exact X.2.2.2⟩, Ch_up h _ (by omega) (by omega)⟩
theorem rp_la {la' le' it' : Nat → Int} (X : RP h la' le' it') (f : Nat → Int) : RP (mj_up h 6 (aZ 8 f)) f le' it' ∧ Ch 4 7 h (mj_up h 6 (aZ 8 f)) := ⟨⟨by rw [up_get, if_neg (by decide)]; exact X.1, by rw [up_get, if_neg (by decide)]; exact X.2.1, by rw [up_get, if_pos rfl], by rw [up_get, if_neg (by decide)]; exact X.2.2.2⟩, Ch_up h _ (by omega) (by omega)⟩
theorem rp_le {la' le' it' : Nat → Int} (X : RP h la' le' it') (f : Nat → Int) : RP (mj_up h 7 (aZ 8 f)) la' f it' ∧ Ch 4 7 h (mj_up h 7 (aZ 8 f)) := ⟨⟨by rw [up_get, if_neg (by decide)]; exact X.1, by rw [up_get, if_neg (by decide)]; exact X.2.1, by rw [up_get, if_neg (by decide)]; exact X.2.2.1, by rw [up_get, if_pos rfl]⟩, Ch_up h _ (by omega) (by omega)⟩
theorem CR.rows {h' : MH} (X : CR h P) (c : Ch 4 7 h h') {Q : Nat → Nat → Int} (R : RO h' (Q 2) (Q 3) (Q 4)) (hq : (Q 6 = P 6 ∧ Q 1 = P 1 ∧ Q 8 = P 8 ∧ Q 9 = P 9 ∧ Q 10 = P 10 ∧ Q 11 = P 11) ∧ Q 0 13 = P 0 13 ∧ Q 0 2 = P 0 2 ∧ Q 0 9 = P 0 9 ∧ Q 0 18 = P 0 18 ∧ Q 0 22 = P 0 22) : CR h' Q := by
  obtain ⟨x1, x2, x3, x4, x5, x6, x7, x8, x9⟩ := X
  obtain ⟨⟨s6, s1, s8, s9, s10, s11⟩, t13, t2, t9, t18, t22⟩ := hq
  unfold CR
  rw [s6, s1, s8, s9, s10, s11, t13, t2, t9, t18, t22]
  exact ⟨x1.fr c (by omega), R, x3.fr c (by omega), x4.fr c (by omega), x5.fr c (by omega), x6.ch c (by omega) (by omega), x7.ch c (by omega) (by omega), x8.fr c (by omega) (by omega), x9.fr c (by omega)⟩
theorem s_make21 {F : Nat} {r : Nat} (hr : r < 8) {la' le' : Nat → Int} : ∀ (d k fu : Nat) (h : MH) (it' : Nat → Int), k + d = 40 → d < fu → RP h la' le' it' → ∃ f, b_Rw_make_21 F fu (some 4) (zI (r : Int)) (zI (k : Int)) h = some (mj_up h 5 (aZ 320 f)) ∧ ∀ j, f j = if 40 * r + k ≤ j ∧ j < 40 * r + 40 then 0 else it' j := by
  intro d
  induction d with
  | zero =>
    intro k fu h it' hk hf X
    obtain ⟨fu, rfl⟩ : ∃ q, fu = q + 1 := ⟨fu - 1, by omega⟩
    refine ⟨it', ?_, fun j => by rw [if_neg (by omega)]⟩
    unfold b_Rw_make_21
    simp (disch := omega) only [l40, zI_le]
    rw [if_pos (by omega), ← X.2.1, up_id]
  | succ d ih =>
    intro k fu h it' hk hf X
    obtain ⟨fu, rfl⟩ : ∃ q, fu = q + 1 := ⟨fu - 1, by omega⟩
    have ep := s_put X.2.1 (by omega) (i := (r : Int) * 40 + k) (x := 0) (by omega) (by omega) (by omega)
    obtain ⟨X1, c1⟩ := rp_it X (upI it' ((r : Int) * 40 + k).toNat 0)
    obtain ⟨f, e, hf2⟩ := ih (k + 1) fu _ _ (by omega) (by omega) X1
    refine ⟨f, ?_, fun j => ?_⟩
    · unfold b_Rw_make_21
      rw [(rp0 X).1, bd, l0, l40, zI_mul, zI_add, ep, bd, l1, zI_add]
      simp (disch := omega) only [zI_le]
      rw [if_neg (by omega)]
      rw [up_up] at e
      exact e
    · rw [hf2 j, show ((r : Int) * 40 + k).toNat = 40 * r + k by omega]
      by_cases c : j = 40 * r + k
      · rw [if_neg (by omega), if_pos (by omega), c, upI_s]
      · rw [upI_n _ _ c]
        by_cases c2 : 40 * r + (k + 1) ≤ j ∧ j < 40 * r + 40
        · rw [if_pos c2, if_pos (by omega)]
        · rw [if_neg c2, if_neg (by omega)]
theorem m_row59 {F : Nat} {r n : Nat} (hr : r < 8) (hn : n ≤ 40) : ∀ (d k fu : Nat) (g : MH) (Q : Nat → Nat → Int), k + d = n → d < fu → Mr g Q → ∃ g' f, b_M_row_59 F fu (some 34) (zI (r : Int)) (zI (n : Int)) (zI (k : Int)) g = some (zI (n : Int), g') ∧ Ch 34 47 g g' ∧ Mr g' (fd (upR Q 4 f) 0) ∧ ∀ j, f j = if 40 * r + k ≤ j ∧ j < 40 * r + n then 0 else Q 4 j := by
  intro d
  induction d with
  | zero =>
    intro k fu g Q hk hf M
    obtain ⟨fu, rfl⟩ : ∃ q, fu = q + 1 := ⟨fu - 1, by omega⟩
    obtain ⟨g', e, c, M'⟩ := m_is M (zI (n : Int))
    refine ⟨g', Q 4, ?_, c, M'.cg (fun j _ => ?_), fun j => by rw [if_neg (by omega)]⟩
    · unfold b_M_row_59
      simp (disch := omega) only [zI_le]
      rw [if_pos (by omega), mr_on M, e]
      rfl
    · have : upR Q 4 (Q 4) = Q := by
        funext i
        unfold upR
        by_cases c : i = 4
        · rw [if_pos c, c]
        · rw [if_neg c]
      rw [this]
  | succ d ih =>
    intro k fu g Q hk hf M
    obtain ⟨fu, rfl⟩ : ∃ q, fu = q + 1 := ⟨fu - 1, by omega⟩
    obtain ⟨g1, e1, c1, M1⟩ := mr_st M 4 (c := 38) (k := 40 * (r : Int) + k) rfl (by omega) (by omega) 0 (by omega) (show 40 * (r : Int) + k < (320 : Nat) by omega)
    obtain ⟨g2, f, e2, c2, M2, hf2⟩ := ih (k + 1) fu g1 _ (by omega) (by omega) M1
    refine ⟨g2, f, ?_, c1.tr c2, M2.cg (fun j _ => ?_), fun j => ?_⟩
    · have e1' : ast g (some 38) 0 (zI (40 * (r : Int) + k)) (zI 0) = some g1 := e1
      unfold b_M_row_59
      rw [mg12 M, bd, l0, l40, zI_mul, zI_add, e1', bd, l1, zI_add]
      simp (disch := omega) only [zI_le]
      rw [if_neg (by omega)]
      exact e2
    · have : upR (upR Q 4 (upI (Q 4) (40 * (r : Int) + k).toNat 0)) 4 f = upR Q 4 f := by
        funext i
        unfold upR
        by_cases c : i = 4
        · rw [if_pos c, if_pos c]
        · rw [if_neg c, if_neg c, if_neg c]
      rw [this]
    · rw [hf2 j]
      show (if _ then (0 : Int) else upI (Q 4) (40 * (r : Int) + k).toNat 0 j) = _
      rw [show (40 * (r : Int) + k).toNat = 40 * r + k by omega]
      by_cases c : j = 40 * r + k
      · rw [if_neg (by omega), if_pos (by omega), c, upI_s]
      · rw [upI_n _ _ c]
        by_cases c2 : 40 * r + (k + 1) ≤ j ∧ j < 40 * r + n
        · rw [if_pos c2, if_pos (by omega)]
        · rw [if_neg c2, if_neg (by omega)]
end
theorem s_row {F : Nat} (hF : 1000 ≤ F) (i j k : Int32) : Ok (f_C_row F (some 3) i j k) (f_M_row F (some 34) i j k) := by
  intro h P X
  obtain ⟨r, r1, r2, rfl⟩ := i_ex i
  obtain ⟨l, l1', l2', rfl⟩ := i_ex j
  obtain ⟨n, n1, n2, rfl⟩ := i_ex k
  obtain ⟨iR, iR'⟩ := isRow_i r1 r2
  have hw : f_C_within (zI l) (3 : Int32) = 0 ↔ ¬ (0 ≤ l ∧ l < 3) := s_within0 (b := 3) l1' l2' (by omega) (by omega)
  have hin : f_M_in (zI l) (0 : Int32) (2 : Int32) = 0 ↔ ¬ (0 ≤ l ∧ l < 3) := by
    rw [show f_M_in (zI l) (0 : Int32) (2 : Int32) = if 0 ≤ l ∧ l ≤ 2 then 1 else 0 from s_M_in (a := 0) (b := 2) l1' l2' (by omega) (by omega) (by omega) (by omega), ite_01]
    omega
  have h40 : zI n ≤ (40 : Int32) ↔ n ≤ 40 := zI_le (b := 40) (by omega) (by omega) (by omega) (by omega)
  have h00 : (0 : Int32) ≤ zI n ↔ 0 ≤ n := zI_le (a := 0) (by omega) (by omega) (by omega) (by omega)
  by_cases cb : (0 ≤ r ∧ r < 8) ∧ (0 ≤ l ∧ l < 3) ∧ n ≤ 40
  · obtain ⟨cr, cl, cn⟩ := cb
    by_cases c0 : 0 ≤ n
    · -- made
      obtain ⟨E, M, C, D, I⟩ := id X
      have hon := rw_on C.2.1 (α := MH)
      obtain ⟨la', le', it', y1, y2, y3, y4, y5⟩ := C.2.1
      have Y : RP h la' le' it' := ⟨y1, y2, y3, y4⟩
      have ep1 := s_put Y.2.2.1 (by omega) (i := r) (x := l) cr.1 (by omega) (by omega)
      obtain ⟨Y1, d1⟩ := rp_la Y (upI la' r.toNat l)
      have ep2 := s_put Y1.2.2.2 (by omega) (i := r) (x := n) cr.1 (by omega) (by omega)
      obtain ⟨Y2, d2⟩ := rp_le Y1 (upI le' r.toNat n)
      obtain ⟨f, ef, hf⟩ := s_make21 (F := F) (r := r.toNat) (by omega) 40 0 F _ _ rfl (by omega) Y2
      rw [Int.toNat_of_nonneg cr.1] at ef
      obtain ⟨Y3, d3⟩ := rp_it Y2 f
      have hC1 : CO (mj_up (mj_up (mj_up h 6 (aZ 8 (upI la' r.toNat l))) 7 (aZ 8 (upI le' r.toNat n))) 5 (aZ 320 f)) (P 6 0) (P 0 13) := C.1.fr (d1.tr (d2.tr d3)) (by omega)
      obtain ⟨h1, es, cs, Cs⟩ := c_sound hC1 (zI n)
      have dall : Ch 3 7 h h1 := ((d1.tr (d2.tr d3)).w (by omega) (by omega)).tr (cs.w (by omega) (by omega))
      have M1 : Mr h1 P := M.fr dall (by omega)
      -- the reference
      obtain ⟨g0, e0, b0, N0⟩ := mr_pf M1 0 rfl 0
      obtain ⟨g1, e1, b1, N1⟩ := mr_st N0 2 (c := 36) (k := r) rfl (by omega) (by omega) (l + 1) cr.1 (show r < (8 : Nat) by omega)
      obtain ⟨g2, e2, b2, N2⟩ := mr_st N1 3 (c := 37) (k := r) rfl (by omega) (by omega) n cr.1 (show r < (8 : Nat) by omega)
      obtain ⟨g3, f3, e3, b3, N3, hf3⟩ := m_row59 (F := F) (r := r.toNat) (n := n.toNat) (by omega) (by omega) n.toNat 0 F g2 _ (by omega) (by omega) N2
      rw [Int.toNat_of_nonneg cr.1, Int.toNat_of_nonneg c0] at e3
      have e1' : ast g0 (some 36) 0 (zI r) (zI (l + 1)) = some g1 := e1
      have e2' : ast g1 (some 37) 0 (zI r) (zI n) = some g2 := e2
      refine ⟨zI n, h1, g3, _, ?_, ?_, J.fin (dall.es (by omega) E) (P1 := fd (upR (upR (upR P 2 (upI (P 2) r.toNat (l + 1))) 3 (upI (P 3) r.toNat n)) 4 f3) 0) ?_ (D.fr dall (by omega)) ?_ (b0.tr (b1.tr (b2.tr b3))) N3 ⟨⟨rfl, rfl, rfl, rfl, rfl, rfl, rfl, rfl, rfl⟩, rfl, rfl, rfl, rfl, rfl⟩, ?_⟩
      · unfold f_C_row f_Rw_make
        simp only [iR, hw, h40, h00]
        rw [if_neg (show ¬ ¬ (0 ≤ r ∧ r < 8) from fun z => z cr), if_neg (show ¬ ¬ (0 ≤ l ∧ l < 3) from fun z => z cl), if_pos cn, if_pos c0, cg0 C.1, bd, (rp0 Y).2.1, bd, ep1, bd, (rp0 Y1).2.2, bd, ep2, bd, hon, l0]
        rw [show zI 0 = zI ((0 : Nat) : Int) from rfl, ef, bd, co_on hC1, es]
        rfl
      · unfold f_M_row
        rw [show (0 : Int32) = zI 0 from rfl] at *
        rw [e0, bd]
        simp only [iR', hin, h40, h00]
        rw [if_neg (show ¬ ¬ (0 ≤ r ∧ r < 8) from fun z => z cr), if_neg (show ¬ ¬ (0 ≤ l ∧ l < 3) from fun z => z cl), if_pos cn, if_pos c0, mg10 N0, bd, l1, zI_add, e1', bd, mg11 N1, bd, e2', bd]
        exact e3
      · refine CR.co (CR.rows C (d1.tr (d2.tr d3)) (Q := upR (upR (upR P 2 (upI (P 2) r.toNat (l + 1))) 3 (upI (P 3) r.toNat n)) 4 f3) ⟨upI la' r.toNat l, upI le' r.toNat n, f, Y3.1, Y3.2.1, Y3.2.2.1, Y3.2.2.2, ?_⟩ ⟨⟨rfl, rfl, rfl, rfl, rfl, rfl⟩, rfl, rfl, rfl, rfl, rfl⟩) cs Cs
        intro q hq
        obtain ⟨z1, z2, z3, z4, z5, z6⟩ := y5 q hq
        show upI (P 2) r.toNat (l + 1) q = _ ∧ _ ∧ _ ∧ (0 ≤ upI (P 3) r.toNat n q ∧ upI (P 3) r.toNat n q ≤ 40) ∧ (_ → upI le' r.toNat n q = upI (P 3) r.toNat n q ∧ ∀ k : Nat, (k : Int) < upI (P 3) r.toNat n q → f (40 * q + k) = f3 (40 * q + k)) ∧ _
        by_cases e : q = r.toNat
        · rw [e, upI_s, upI_s, upI_s, upI_s]
          refine ⟨rfl, by omega, by omega, by omega, fun _ => ⟨rfl, fun k hk => ?_⟩, fun z => by omega⟩
          rw [hf, hf3, if_pos (by omega), if_pos (by omega)]
        · rw [upI_n _ _ e, upI_n _ _ e, upI_n _ _ e, upI_n _ _ e]
          refine ⟨z1, z2, z3, z4, fun z => ⟨(z5 z).1, fun k hk => ?_⟩, z6⟩
          rw [hf, hf3, if_neg (by omega), if_neg (by omega)]
          exact (z5 z).2 k hk
      · exact I
      · exact Gr_2 dall (b0.tr (b1.tr (b2.tr b3))) (by omega) (by omega)
    · -- fewer than none
      obtain ⟨h1, e1, c1, hg⟩ := X.find 4
      obtain ⟨g, e, c, M⟩ := mr_pf (X.2.1.fr c1 (by omega)) 0 rfl 0
      obtain ⟨h2, e2, c2, J2⟩ := hg g c M
      refine ⟨zI (-1000010 - 4), h1, h2, _, ?_, ?_, J2, Gr_2 c1 (c.tr c2) (by omega) (by omega)⟩
      · unfold f_C_row
        simp only [iR, hw, h40, h00]
        rw [if_neg (show ¬ ¬ (0 ≤ r ∧ r < 8) from fun z => z cr), if_neg (show ¬ ¬ (0 ≤ l ∧ l < 3) from fun z => z cl), if_pos cn, if_neg c0, co_on X.2.2.1.1, show (4 : Int32) = zI 4 from rfl, e1]
        rfl
      · unfold f_M_row
        rw [show (Value.int (0 : Int32)) = Value.int (zI 0) from rfl, e, bd]
        simp only [iR', hin, h40, h00]
        rw [if_neg (show ¬ ¬ (0 ≤ r ∧ r < 8) from fun z => z cr), if_neg (show ¬ ¬ (0 ≤ l ∧ l < 3) from fun z => z cl), if_pos cn, if_neg c0, mr_on M, show (4 : Int32) = zI 4 from rfl, e2]
        rfl
  · obtain ⟨g, e, c, X'⟩ := X.thr
    refine ⟨-1000001, h, g, th P, ?_, ?_, X', Gr_eq c (by omega)⟩
    · unfold f_C_row
      simp only [iR, hw, h40, h00]
      by_cases c1 : 0 ≤ r ∧ r < 8
      · rw [if_neg (show ¬ ¬ (0 ≤ r ∧ r < 8) from fun z => z c1)]
        by_cases c2 : 0 ≤ l ∧ l < 3
        · rw [if_neg (show ¬ ¬ (0 ≤ l ∧ l < 3) from fun z => z c2), if_neg (fun z => cb ⟨c1, c2, z⟩)]
        · rw [if_pos c2]
      · rw [if_pos c1]
    · unfold f_M_row
      rw [e, bd]
      simp only [iR', hin, h40, h00]
      by_cases c1 : 0 ≤ r ∧ r < 8
      · rw [if_neg (show ¬ ¬ (0 ≤ r ∧ r < 8) from fun z => z c1)]
        by_cases c2 : 0 ≤ l ∧ l < 3
        · rw [if_neg (show ¬ ¬ (0 ≤ l ∧ l < 3) from fun z => z c2), if_neg (fun z => cb ⟨c1, c2, z⟩)]
        · rw [if_pos c2]
      · rw [if_pos c1]
