/-! ===== copy ===== -/
def cpI (f : Nat → Int) (S T n : Nat) : Nat → Int := fun k => if T ≤ k ∧ k < T + n then f (S + (k - T)) else f k
section
variable {h : MH} {P : Nat → Nat → Int}
theorem cpy_Z {a N : Nat} {f : Nat → Int} (H : h.1 a = aZ N f) (ha : 3 ≤ a) (hN : N < 2147483648) {S T n : Nat} (h1 : S + n ≤ N) (h2 : T + n ≤ N) : cpy h (some a) (zI (S : Int)) (zI (T : Int)) (zI (n : Int)) = some (mj_up h a (aZ N (cpI f S T n))) := by
  have cS : (zI (S : Int)).toNatClampNeg = S := by rw [zI_clamp (by omega) (by omega)]; omega
  have cT : (zI (T : Int)).toNatClampNeg = T := by rw [zI_clamp (by omega) (by omega)]; omega
  have cn : (zI (n : Int)).toNatClampNeg = n := by rw [zI_clamp (by omega) (by omega)]; omega
  have pS : (0 : Int32) ≤ zI (S : Int) := (zI_le (a := 0) (by omega) (by omega) (by omega) (by omega)).mpr (by omega)
  have pT : (0 : Int32) ≤ zI (T : Int) := (zI_le (a := 0) (by omega) (by omega) (by omega) (by omega)).mpr (by omega)
  have pn : (0 : Int32) ≤ zI (n : Int) := (zI_le (a := 0) (by omega) (by omega) (by omega) (by omega)).mpr (by omega)
  have e : va_cpy (fZ f) (fZ f) S T n = fZ (cpI f S T n) := by
    funext k
    unfold va_cpy fZ cpI
    split <;> rfl
  simp only [cpy, mj_arr, H, Option.bind_some, cS, cT, cn]
  rw [if_pos ⟨trivial, ha, pS, pT, pn, h1, h2⟩, e]
  rfl
/-- the reference's loop, one number after another -/
theorem m_copy99 {F : Nat} {a b i j n : Nat} (ha : a < 8) (hb : b < 8) (hi : i + n ≤ 40) (hj : j + n ≤ 40) {it0 : Nat → Int} : ∀ (d e fu : Nat) (g : MH) (Q : Nat → Nat → Int), e + d = n → d < fu → Mr g Q →
    (∀ k, Q 4 k = if (if j ≤ i then 40 * b + j ≤ k ∧ k < 40 * b + j + e else 40 * b + j + n - e ≤ k ∧ k < 40 * b + j + n) then it0 (40 * a + i + (k - (40 * b + j))) else it0 k) →
    ∃ g' f, b_M_copy_99 F fu (some 34) (zI (a : Int)) (zI (i : Int)) (zI (b : Int)) (zI (j : Int)) (zI (n : Int)) (zI (e : Int)) g = some (zI (n : Int), g') ∧ Ch 34 47 g g' ∧ Mr g' (fd (upR Q 4 f) 0) ∧ f = cpI it0 (40 * a + i) (40 * b + j) n := by
  intro d
  induction d with
  | zero =>
    intro e fu g Q he hf M hQ
    obtain ⟨fu, rfl⟩ : ∃ q, fu = q + 1 := ⟨fu - 1, by omega⟩
    obtain ⟨g', e1, c, M'⟩ := m_is M (zI (n : Int))
    refine ⟨g', Q 4, ?_, c, M'.cg (fun s _ => ?_), ?_⟩
    · unfold b_M_copy_99
      simp (disch := omega) only [zI_le]
      rw [if_pos (by omega), mr_on M, e1]
      rfl
    · have : upR Q 4 (Q 4) = Q := by
        funext s
        unfold upR
        by_cases c : s = 4
        · rw [if_pos c, c]
        · rw [if_neg c]
      rw [this]
    · funext k
      rw [hQ k]
      unfold cpI
      by_cases cij : j ≤ i
      · simp only [if_pos cij]
        rw [show e = n by omega]
      · simp only [if_neg cij]
        rw [show 40 * b + j + n - e = 40 * b + j by omega]
  | succ d ih =>
    intro e fu g Q he hf M hQ
    obtain ⟨fu, rfl⟩ : ∃ q, fu = q + 1 := ⟨fu - 1, by omega⟩
    have x1 : zI (n : Int) ≤ zI (e : Int) ↔ (n : Int) ≤ e := zI_le (by omega) (by omega) (by omega) (by omega)
    have x2 : zI (j : Int) ≤ zI (i : Int) ↔ (j : Int) ≤ i := zI_le (by omega) (by omega) (by omega) (by omega)
    have step : ∀ k : Nat, k < n → (k = if j ≤ i then e else n - 1 - e) →
        ∃ g' f, b_M_copy_124 F (b_M_copy_99 F fu) (some 34) (zI (a : Int)) (zI (i : Int)) (zI (b : Int)) (zI (j : Int)) (zI (n : Int)) (zI (e : Int)) (zI (k : Int)) g = some (zI (n : Int), g') ∧ Ch 34 47 g g' ∧ Mr g' (fd (upR Q 4 f) 0) ∧ f = cpI it0 (40 * a + i) (40 * b + j) n := by
      intro k hk hke
      have A : g.1 38 = aZ 320 (Q 4) := M.2 4 (by omega) (by omega)
      have hl := aldN A (k := 40 * a + i + k) (by omega) (by omega)
      obtain ⟨g1, e1, c1, M1⟩ := mr_st M 4 (c := 38) (k := ((40 * b + j + k : Nat) : Int)) rfl (by omega) (by omega) (Q 4 (40 * a + i + k)) (by omega) (show ((40 * b + j + k : Nat) : Int) < (320 : Nat) by omega)
      have e1' : ast g (some 38) 0 (zI ((40 * b + j + k : Nat) : Int)) (zI (Q 4 (40 * a + i + k))) = some g1 := e1
      have hsrc : Q 4 (40 * a + i + k) = it0 (40 * a + i + k) := by
        rw [hQ, if_neg ?_]
        intro z
        by_cases cij : j ≤ i
        · rw [if_pos cij] at z hke
          by_cases cab : a = b
          · omega
          · rcases (show a < b ∨ b < a by omega) with y | y <;> omega
        · rw [if_neg cij] at z hke
          by_cases cab : a = b
          · omega
          · rcases (show a < b ∨ b < a by omega) with y | y <;> omega
      obtain ⟨g2, f, e2, c2, M2, hf2⟩ := ih (e + 1) fu g1 _ (by omega) (by omega) M1 (fun t => by
        show upI (Q 4) ((40 * b + j + k : Nat) : Int).toNat (Q 4 (40 * a + i + k)) t = _
        rw [Int.toNat_natCast, hsrc]
        by_cases c : t = 40 * b + j + k
        · rw [c, upI_s, if_pos ?_]
          · congr 1
            omega
          · by_cases cij : j ≤ i
            · rw [if_pos cij] at hke ⊢
              omega
            · rw [if_neg cij] at hke ⊢
              omega
        · rw [upI_n _ _ c, hQ t]
          by_cases cij : j ≤ i
          · simp only [if_pos cij] at hke ⊢
            by_cases cc : 40 * b + j ≤ t ∧ t < 40 * b + j + e
            · rw [if_pos cc, if_pos (by omega)]
            · rw [if_neg cc, if_neg (by omega)]
          · simp only [if_neg cij] at hke ⊢
            by_cases cc : 40 * b + j + n - e ≤ t ∧ t < 40 * b + j + n
            · rw [if_pos cc, if_pos (by omega)]
            · rw [if_neg cc, if_neg (by omega)])
      refine ⟨g2, f, ?_, c1.tr c2, M2.cg (fun s _ => ?_), hf2⟩
      · unfold b_M_copy_124
        rw [mg12 M, bd, bd, l40, zI_mul, zI_mul, zI_add, zI_add, zI_add, zI_add, show 40 * (a : Int) + i + k = ((40 * a + i + k : Nat) : Int) by omega, hl, bd, show 40 * (b : Int) + j + k = ((40 * b + j + k : Nat) : Int) by omega, e1', bd, l1, zI_add]
        exact e2
      · have : upR (upR Q 4 (upI (Q 4) ((40 * b + j + k : Nat) : Int).toNat (Q 4 (40 * a + i + k)))) 4 f = upR Q 4 f := by
          funext s
          unfold upR
          by_cases c : s = 4
          · rw [if_pos c, if_pos c]
          · rw [if_neg c, if_neg c, if_neg c]
        rw [this]
    have hu : b_M_copy_99 F (fu + 1) (some 34) (zI (a : Int)) (zI (i : Int)) (zI (b : Int)) (zI (j : Int)) (zI (n : Int)) (zI (e : Int)) g = if (j : Int) ≤ i then b_M_copy_124 F (b_M_copy_99 F fu) (some 34) (zI (a : Int)) (zI (i : Int)) (zI (b : Int)) (zI (j : Int)) (zI (n : Int)) (zI (e : Int)) (zI (e : Int)) g else b_M_copy_124 F (b_M_copy_99 F fu) (some 34) (zI (a : Int)) (zI (i : Int)) (zI (b : Int)) (zI (j : Int)) (zI (n : Int)) (zI (e : Int)) (zI ((n : Int) - 1 - e)) g := by
      conv => lhs; unfold b_M_copy_99
      simp only [x1, x2]
      rw [if_neg (show ¬ (n : Int) ≤ e by omega), l1, zI_sub, zI_sub]
    rw [hu]
    by_cases cij : j ≤ i
    · rw [if_pos (by omega)]
      exact step e (by omega) (by rw [if_pos cij])
    · rw [if_neg (by omega), show (n : Int) - 1 - e = ((n - 1 - e : Nat) : Int) by omega]
      exact step (n - 1 - e) (by omega) (by rw [if_neg cij])
end
set_option maxHeartbeats 4000000 in
theorem s_copy {F : Nat} (hF : 1000 ≤ F) (i1 i2 i3 i4 i5 : Int32) : Ok (f_C_copy (some 3) i1 i2 i3 i4 i5) (f_M_copy F (some 34) i1 i2 i3 i4 i5) := by
  intro h P X
  obtain ⟨a, a1, a2, rfl⟩ := i_ex i1
  obtain ⟨i, p1, p2, rfl⟩ := i_ex i2
  obtain ⟨b, b1, b2, rfl⟩ := i_ex i3
  obtain ⟨j, j1, j2, rfl⟩ := i_ex i4
  obtain ⟨n, n1, n2, rfl⟩ := i_ex i5
  obtain ⟨iA, iA'⟩ := isRow_i a1 a2
  obtain ⟨iB, iB'⟩ := isRow_i b1 b2
  by_cases cr : (0 ≤ a ∧ a < 8) ∧ (0 ≤ b ∧ b < 8)
  · obtain ⟨ca, cb⟩ := cr
    have hlaA := X.2.2.1.2.1.r (r := a.toNat) (by omega)
    have hlaB := X.2.2.1.2.1.r (r := b.toNat) (by omega)
    have C := X.2.2.1
    have hon := rw_on C.2.1 (α := Int32)
    have hon2 := rw_on C.2.1 (α := MH)
    obtain ⟨hma1, hma2⟩ := c_missing C.2.1 ca.1 ca.2
    obtain ⟨hmb1, hmb2⟩ := c_missing C.2.1 cb.1 cb.2
    have xA : zI (P 2 a.toNat) = (0 : Int32) ↔ P 2 a.toNat = 0 := zI_eq (b := 0) (by omega) (by omega) (by omega) (by omega)
    have xB : zI (P 2 b.toNat) = (0 : Int32) ↔ P 2 b.toNat = 0 := zI_eq (b := 0) (by omega) (by omega) (by omega) (by omega)
    have xAB : zI (P 2 a.toNat) = zI (P 2 b.toNat) ↔ P 2 a.toNat = P 2 b.toNat := zI_eq (by omega) (by omega) (by omega) (by omega)
    -- a finding, alike
    have fnd : ∀ n0 : Int, (∀ h1, f_C_found (some 3) (zI n0) h = some (zI (-1000010 - n0), h1) → f_C_copy (some 3) (zI a) (zI i) (zI b) (zI j) (zI n) h = some (zI (-1000010 - n0), h1)) → (∀ g g2, Ch 3 47 h g → Mr g (th P) → f_M_finds (some 34) (zI n0) g = some (zI (-1000010 - n0), g2) → ∀ g0, pfv g0 (some 34) [11] 0 (Value.int (zI 0)) = some g → f_M_copy F (some 34) (zI a) (zI i) (zI b) (zI j) (zI n) g0 = some (zI (-1000010 - n0), g2)) →
        ∃ x h1 h2 P2, f_C_copy (some 3) (zI a) (zI i) (zI b) (zI j) (zI n) h = some (x, h1) ∧ f_M_copy F (some 34) (zI a) (zI i) (zI b) (zI j) (zI n) h1 = some (x, h2) ∧ J h2 P2 ∧ Gr h h1 h2 := by
      intro n0 f1 f2
      obtain ⟨h1, e1, c1, hg⟩ := X.find n0
      obtain ⟨g, e, c, M⟩ := mr_pf (X.2.1.fr c1 (by omega)) 0 rfl 0
      obtain ⟨h2, e2, c2, J2⟩ := hg g c M
      exact ⟨zI (-1000010 - n0), h1, h2, _, f1 h1 e1, f2 g h2 ((c1.w (by omega) (by omega)).tr (c.w (by omega) (by omega))) M e2 h1 e, J2, Gr_2 c1 (c.tr c2) (by omega) (by omega)⟩
    by_cases cA0 : P 2 a.toNat = 0
    · refine fnd 1 (fun h1 e1 => ?_) (fun g g2 cg M e2 g0 e => ?_)
      · unfold f_C_copy b_C_copy_39
        simp only [iA, iB]
        rw [if_neg (show ¬ ¬ (0 ≤ a ∧ a < 8) from fun z => z ca), if_neg (show ¬ ¬ (0 ≤ b ∧ b < 8) from fun z => z cb), cg0 C.1, bd, hon, hma2 cA0, bd, if_neg (by decide), co_on C.1, show (1 : Int32) = zI 1 from rfl, e1]
        rfl
      · have A : g.1 36 = aZ 8 (P 2) := M.2 2 (by omega) (by omega)
        unfold f_M_copy b_M_copy_40
        rw [show (Value.int (0 : Int32)) = Value.int (zI 0) from rfl, e, bd]
        simp only [iA', iB']
        rw [if_neg (show ¬ ¬ (0 ≤ a ∧ a < 8) from fun z => z ca), if_neg (show ¬ ¬ (0 ≤ b ∧ b < 8) from fun z => z cb), mg10 M, bd, aldZ A ca.1 (by omega) (by omega), bd]
        simp only [xA]
        rw [if_pos cA0, mr_on M, show (1 : Int32) = zI 1 from rfl, e2]
        rfl
    · by_cases cB0 : P 2 b.toNat = 0
      · refine fnd 1 (fun h1 e1 => ?_) (fun g g2 cg M e2 g0 e => ?_)
        · unfold f_C_copy b_C_copy_39
          simp only [iA, iB]
          rw [if_neg (show ¬ ¬ (0 ≤ a ∧ a < 8) from fun z => z ca), if_neg (show ¬ ¬ (0 ≤ b ∧ b < 8) from fun z => z cb), cg0 C.1, bd, hon, hma1 cA0, bd, if_pos rfl, bd, hon, hmb2 cB0, bd, if_neg (by decide), co_on C.1, show (1 : Int32) = zI 1 from rfl, e1]
          rfl
        · have A : g.1 36 = aZ 8 (P 2) := M.2 2 (by omega) (by omega)
          unfold f_M_copy b_M_copy_40
          rw [show (Value.int (0 : Int32)) = Value.int (zI 0) from rfl, e, bd]
          simp only [iA', iB']
          rw [if_neg (show ¬ ¬ (0 ≤ a ∧ a < 8) from fun z => z ca), if_neg (show ¬ ¬ (0 ≤ b ∧ b < 8) from fun z => z cb), mg10 M, bd, aldZ A ca.1 (by omega) (by omega), bd]
          simp only [xA]
          rw [if_neg cA0, bd, aldZ A cb.1 (by omega) (by omega), bd]
          simp only [xB]
          rw [if_pos cB0, mr_on M, show (1 : Int32) = zI 1 from rfl, e2]
          rfl
      · have halike : f_Rw_areAlike (some 4) (zI a) (zI b) h = some (if P 2 a.toNat = P 2 b.toNat then 1 else 0) := by
          obtain ⟨la', le', it', y1, y2, y3, y4, y5⟩ := C.2.1
          obtain ⟨za, za2, -⟩ := y5 a.toNat (by omega)
          obtain ⟨zb, zb2, -⟩ := y5 b.toNat (by omega)
          have Y : RP h la' le' it' := ⟨y1, y2, y3, y4⟩
          have x : zI (la' a.toNat) = zI (la' b.toNat) ↔ P 2 a.toNat = P 2 b.toNat := by
            rw [zI_eq (by omega) (by omega) (by omega) (by omega)]
            omega
          unfold f_Rw_areAlike
          rw [(rp0 Y).2.1, bd, s_at_in Y.2.2.1 ca.1 (by omega) (by omega), bd, bd, s_at_in Y.2.2.1 cb.1 (by omega) (by omega), bd]
          simp only [x]
          by_cases c : P 2 a.toNat = P 2 b.toNat
          · rw [if_pos c, if_pos c]
          · rw [if_neg c, if_neg c]
        by_cases cAB : P 2 a.toNat = P 2 b.toNat
        · have hA := c_holds C.2.1 ca.1 ca.2 cA0 p1 p2 n1 n2
          have hB := c_holds C.2.1 cb.1 cb.2 cB0 j1 j2 n1 n2
          by_cases cp : (0 ≤ i ∧ 0 ≤ n ∧ i + n ≤ P 3 a.toNat) ∧ (0 ≤ j ∧ 0 ≤ n ∧ j + n ≤ P 3 b.toNat)
          · obtain ⟨pA, pB⟩ := cp
            rw [if_pos pA] at hA
            rw [if_pos pB] at hB
            obtain ⟨E, M, -, D, I⟩ := id X
            obtain ⟨la', le', it', y1, y2, y3, y4, y5⟩ := C.2.1
            have Y : RP h la' le' it' := ⟨y1, y2, y3, y4⟩
            have hcp := cpy_Z Y.2.1 (by omega) (by omega) (S := 40 * a.toNat + i.toNat) (T := 40 * b.toNat + j.toNat) (n := n.toNat) (by omega) (by omega)
            obtain ⟨Y1, d1⟩ := rp_it Y (cpI it' (40 * a.toNat + i.toNat) (40 * b.toNat + j.toNat) n.toNat)
            have hcar : f_Rw_carry (some 4) (zI a) (zI i) (zI b) (zI j) (zI n) h = some (mj_up h 5 (aZ 320 (cpI it' (40 * a.toNat + i.toNat) (40 * b.toNat + j.toNat) n.toNat))) := by
              unfold f_Rw_carry
              rw [hon, hma1 cA0, bd, if_pos rfl, hon, hmb1 cB0, bd, if_pos rfl, hon, hA, bd, if_neg (by decide), hon, hB, bd, if_neg (by decide), (rp0 Y).1, bd, bd]
              have : mj_same (some 5) (some 5) = some () := by unfold mj_same; rw [if_pos rfl]
              rw [this, bd, l40, zI_mul, zI_mul, zI_add, zI_add]
              rw [show ((40 * a.toNat + i.toNat : Nat) : Int) = a * 40 + i by omega, show ((40 * b.toNat + j.toNat : Nat) : Int) = b * 40 + j by omega, show ((n.toNat : Nat) : Int) = n by omega] at hcp
              rw [hcp]
              rfl
            have hC1 : CO (mj_up h 5 (aZ 320 (cpI it' (40 * a.toNat + i.toNat) (40 * b.toNat + j.toNat) n.toNat))) (P 6 0) (P 0 13) := C.1.fr d1 (by omega)
            obtain ⟨h1, es, cs, Cs⟩ := c_sound hC1 (zI n)
            have dall : Ch 3 7 h h1 := (d1.w (by omega) (by omega)).tr (cs.w (by omega) (by omega))
            have M1 : Mr h1 P := M.fr dall (by omega)
            obtain ⟨g0, e0, b0, N0⟩ := mr_pf M1 0 rfl 0
            have A2 : g0.1 36 = aZ 8 (P 2) := N0.2 2 (by omega) (by omega)
            have hpA : f_M_isPart (some 34) (zI a) (zI i) (zI n) g0 = some (if 0 ≤ i ∧ 0 ≤ n ∧ i + n ≤ P 3 a.toNat then 1 else 0) := m_isPart N0 ca.1 ca.2 hlaA.2 p1 p2 n1 n2
            have hpB : f_M_isPart (some 34) (zI b) (zI j) (zI n) g0 = some (if 0 ≤ j ∧ 0 ≤ n ∧ j + n ≤ P 3 b.toNat then 1 else 0) := m_isPart N0 cb.1 cb.2 hlaB.2 j1 j2 n1 n2
            rw [if_pos pA] at hpA
            rw [if_pos pB] at hpB
            obtain ⟨g1, f, e1, c1, N1, hf⟩ := m_copy99 (F := F) (a := a.toNat) (b := b.toNat) (i := i.toNat) (j := j.toNat) (n := n.toNat) (it0 := P 4) (by omega) (by omega) (by omega) (by omega) n.toNat 0 F g0 (th P) (by omega) (by omega) N0 (fun k => by
              rw [if_neg ?_]
              · rfl
              · intro z
                split at z <;> omega)
            rw [Int.toNat_of_nonneg ca.1, Int.toNat_of_nonneg cb.1, Int.toNat_of_nonneg pA.1, Int.toNat_of_nonneg pB.1, Int.toNat_of_nonneg pA.2.1] at e1
            refine ⟨zI n, h1, g1, _, ?_, ?_, J.fin (dall.es (by omega) E) (P1 := fd (upR P 4 f) 0) ?_ (D.fr dall (by omega)) ?_ (b0.tr c1) N1 ⟨⟨rfl, rfl, rfl, rfl, rfl, rfl, rfl, rfl, rfl⟩, rfl, rfl, rfl, rfl, rfl⟩, Gr_2 dall (b0.tr c1) (by omega) (by omega)⟩
            · unfold f_C_copy
              simp only [iA, iB]
              rw [if_neg (show ¬ ¬ (0 ≤ a ∧ a < 8) from fun z => z ca), if_neg (show ¬ ¬ (0 ≤ b ∧ b < 8) from fun z => z cb), cg0 C.1, bd, hon, hma1 cA0, bd, if_pos rfl, bd, hon, hmb1 cB0, bd, if_pos rfl, bd, hon, halike, bd, if_pos cAB, if_neg (by decide), bd, hon, hA, bd, if_neg (by decide), bd, hon, hB, bd, if_neg (by decide), bd, hon2, hcar, bd, co_on hC1, es]
              rfl
            · unfold f_M_copy
              rw [show (Value.int (0 : Int32)) = Value.int (zI 0) from rfl, e0, bd]
              simp only [iA', iB']
              rw [if_neg (show ¬ ¬ (0 ≤ a ∧ a < 8) from fun z => z ca), if_neg (show ¬ ¬ (0 ≤ b ∧ b < 8) from fun z => z cb), mg10 N0, bd, aldZ A2 ca.1 (by omega) (by omega), bd]
              simp only [xA]
              rw [if_neg cA0, bd, aldZ A2 cb.1 (by omega) (by omega), bd]
              simp only [xB]
              rw [if_neg cB0, bd, aldZ A2 ca.1 (by omega) (by omega), bd, bd, aldZ A2 cb.1 (by omega) (by omega), bd]
              simp only [xAB]
              rw [if_pos cAB, mr_on N0, hpA, bd, if_neg (by decide), mr_on N0, hpB, bd, if_neg (by decide)]
              exact e1
            · refine CR.co (CR.rows C d1 (Q := upR P 4 f) ⟨la', le', _, Y1.1, Y1.2.1, Y1.2.2.1, Y1.2.2.2, ?_⟩ ⟨⟨rfl, rfl, rfl, rfl, rfl, rfl⟩, rfl, rfl, rfl, rfl, rfl⟩) cs Cs
              intro s hs
              obtain ⟨w1, w2, w3, w4, w5, w6⟩ := y5 s hs
              refine ⟨w1, w2, w3, w4, fun z => ⟨(w5 z).1, fun t ht => ?_⟩, w6⟩
              have ht : (t : Int) < P 3 s := ht
              show cpI it' _ _ _ (40 * s + t) = f (40 * s + t)
              rw [hf]
              unfold cpI
              by_cases cc : 40 * b.toNat + j.toNat ≤ 40 * s + t ∧ 40 * s + t < 40 * b.toNat + j.toNat + n.toNat
              · rw [if_pos cc, if_pos cc]
                obtain ⟨v1, v2, v3, v4, v5, v6⟩ := y5 a.toNat (by omega)
                have := (v5 (by omega)).2 (i.toNat + (40 * s + t - (40 * b.toNat + j.toNat))) (by omega)
                rw [show 40 * a.toNat + i.toNat + (40 * s + t - (40 * b.toNat + j.toNat)) = 40 * a.toNat + (i.toNat + (40 * s + t - (40 * b.toNat + j.toNat))) by omega]
                exact this
              · rw [if_neg cc, if_neg cc]
                exact (w5 z).2 t ht
            · exact I
          · refine fnd 2 (fun h1 e1 => ?_) (fun g g2 cg M e2 g0 e => ?_)
            · unfold f_C_copy b_C_copy_92
              simp only [iA, iB]
              rw [if_neg (show ¬ ¬ (0 ≤ a ∧ a < 8) from fun z => z ca), if_neg (show ¬ ¬ (0 ≤ b ∧ b < 8) from fun z => z cb), cg0 C.1, bd, hon, hma1 cA0, bd, if_pos rfl, bd, hon, hmb1 cB0, bd, if_pos rfl, bd, hon, halike, bd, if_pos cAB, if_neg (by decide), bd, hon, hA, bd]
              by_cases pA : 0 ≤ i ∧ 0 ≤ n ∧ i + n ≤ P 3 a.toNat
              · rw [if_pos pA, if_neg (by decide), bd, hon, hB, bd, if_neg (fun z => cp ⟨pA, z⟩), if_pos rfl, co_on C.1, show (2 : Int32) = zI 2 from rfl, e1]
                rfl
              · rw [if_neg pA, if_pos rfl, co_on C.1, show (2 : Int32) = zI 2 from rfl, e1]
                rfl
            · have A : g.1 36 = aZ 8 (P 2) := M.2 2 (by omega) (by omega)
              have hpA : f_M_isPart (some 34) (zI a) (zI i) (zI n) g = some (if 0 ≤ i ∧ 0 ≤ n ∧ i + n ≤ P 3 a.toNat then 1 else 0) := m_isPart M ca.1 ca.2 hlaA.2 p1 p2 n1 n2
              have hpB : f_M_isPart (some 34) (zI b) (zI j) (zI n) g = some (if 0 ≤ j ∧ 0 ≤ n ∧ j + n ≤ P 3 b.toNat then 1 else 0) := m_isPart M cb.1 cb.2 hlaB.2 j1 j2 n1 n2
              unfold f_M_copy b_M_copy_90
              rw [show (Value.int (0 : Int32)) = Value.int (zI 0) from rfl, e, bd]
              simp only [iA', iB']
              rw [if_neg (show ¬ ¬ (0 ≤ a ∧ a < 8) from fun z => z ca), if_neg (show ¬ ¬ (0 ≤ b ∧ b < 8) from fun z => z cb), mg10 M, bd, aldZ A ca.1 (by omega) (by omega), bd]
              simp only [xA]
              rw [if_neg cA0, bd, aldZ A cb.1 (by omega) (by omega), bd]
              simp only [xB]
              rw [if_neg cB0, bd, aldZ A ca.1 (by omega) (by omega), bd, bd, aldZ A cb.1 (by omega) (by omega), bd]
              simp only [xAB]
              rw [if_pos cAB, mr_on M, hpA, bd]
              by_cases pA : 0 ≤ i ∧ 0 ≤ n ∧ i + n ≤ P 3 a.toNat
              · rw [if_pos pA, if_neg (by decide), mr_on M, hpB, bd, if_neg (fun z => cp ⟨pA, z⟩), if_pos rfl, mr_on M, show (2 : Int32) = zI 2 from rfl, e2]
                rfl
              · rw [if_neg pA, if_pos rfl, mr_on M, show (2 : Int32) = zI 2 from rfl, e2]
                rfl
        · refine fnd 5 (fun h1 e1 => ?_) (fun g g2 cg M e2 g0 e => ?_)
          · unfold f_C_copy
            simp only [iA, iB]
            rw [if_neg (show ¬ ¬ (0 ≤ a ∧ a < 8) from fun z => z ca), if_neg (show ¬ ¬ (0 ≤ b ∧ b < 8) from fun z => z cb), cg0 C.1, bd, hon, hma1 cA0, bd, if_pos rfl, bd, hon, hmb1 cB0, bd, if_pos rfl, bd, hon, halike, bd, if_neg cAB, if_pos rfl, co_on C.1, show (5 : Int32) = zI 5 from rfl, e1]
            rfl
          · have A : g.1 36 = aZ 8 (P 2) := M.2 2 (by omega) (by omega)
            unfold f_M_copy
            rw [show (Value.int (0 : Int32)) = Value.int (zI 0) from rfl, e, bd]
            simp only [iA', iB']
            rw [if_neg (show ¬ ¬ (0 ≤ a ∧ a < 8) from fun z => z ca), if_neg (show ¬ ¬ (0 ≤ b ∧ b < 8) from fun z => z cb), mg10 M, bd, aldZ A ca.1 (by omega) (by omega), bd]
            simp only [xA]
            rw [if_neg cA0, bd, aldZ A cb.1 (by omega) (by omega), bd]
            simp only [xB]
            rw [if_neg cB0, bd, aldZ A ca.1 (by omega) (by omega), bd, bd, aldZ A cb.1 (by omega) (by omega), bd]
            simp only [xAB]
            rw [if_neg cAB, mr_on M, show (5 : Int32) = zI 5 from rfl, e2]
            rfl
  · obtain ⟨g, e, c, X'⟩ := X.thr
    refine ⟨-1000001, h, g, th P, ?_, ?_, X', Gr_eq c (by omega)⟩
    · unfold f_C_copy
      simp only [iA, iB]
      by_cases ca : 0 ≤ a ∧ a < 8
      · rw [if_neg (show ¬ ¬ (0 ≤ a ∧ a < 8) from fun z => z ca), if_pos (fun z => cr ⟨ca, z⟩)]
      · rw [if_pos ca]
    · unfold f_M_copy
      rw [e, bd]
      simp only [iA', iB']
      by_cases ca : 0 ≤ a ∧ a < 8
      · rw [if_neg (show ¬ ¬ (0 ≤ a ∧ a < 8) from fun z => z ca), if_pos (fun z => cr ⟨ca, z⟩)]
      · rw [if_pos ca]
