/-! ===== the search's beginning ===== -/
theorem Bs_Sm {h h' : MH} (m : Sm h h') {a : Nat} (ha : 26 ≤ a) {v : Nat → Int} (B : Bs h a v) : Bs h' a v := by
  obtain ⟨B0, B1, g, B2, B3⟩ := B
  refine ⟨(m.2 a (by omega)).trans B0, (m.2 (a + 1) (by omega)).trans B1, g, (m.2 (a + 2) (by omega)).trans B2, fun i hi => ?_⟩
  obtain ⟨p, p1, p2, p3⟩ := B3 i hi
  exact ⟨p, p1, p2, (m.2 p (by omega)).trans p3⟩
theorem sr_fill {h : MH} {R : Nat → Nat → Int} (S : Sr h R) {F : Nat} (hF : 1000000 ≤ F) {c : Nat} (a : Nat) (hc : c = 17 + a) (h1 : 1 ≤ a) (h2 : a ≤ 8) (x : Int) : ∃ h' R', f_J_fill F (some c) (zI x) h = some h' ∧ Sm h h' ∧ Sr h' R' ∧ (∀ j, j ≠ a → R' j = R j) ∧ ∀ k : Nat, k < szS a → R' a k = x := by
  obtain ⟨e1, e2⟩ := sr_ar S a hc h1 h2 (fun j => if j < szS a then x else R a j)
  refine ⟨_, _, ?_, e1, e2, fun j hj => ?_, fun k hk => ?_⟩
  · subst hc
    exact s_fillA (by omega) (by unfold szS; (repeat' split) <;> omega) hF (S.2 a h1 h2)
  · unfold upR; rw [if_neg hj]
  · unfold upR; rw [if_pos rfl, if_pos hk]
theorem s_prep83 {F : Nat} {a : Nat} (ha : 26 ≤ a) {v : Nat → Int} (W : Wv v) : ∀ (d k fu : Nat) (h : MH) (R : Nat → Nat → Int), k + d = 192 → d < fu → Es h → Bs h a v → Sr h R → (∀ j : Nat, j < k → R 1 j = shal v ((j : Int) / 8) ((j : Int) % 8)) →
    ∃ h' R', b_S_prepare_83 F fu (some 17) (some a) (zI (k : Int)) h = some h' ∧ Sm h h' ∧ Sr h' R' ∧ (∀ j, j ≠ 1 → R' j = R j) ∧ ∀ j : Nat, j < 192 → R' 1 j = shal v ((j : Int) / 8) ((j : Int) % 8) := by
  intro d
  induction d with
  | zero =>
    intro k fu h R hk hf E B S hR
    obtain ⟨fu, rfl⟩ : ∃ q, fu = q + 1 := ⟨fu - 1, by omega⟩
    refine ⟨h, R, ?_, Sm_0 h, S, fun j _ => rfl, fun j hj => hR j (by omega)⟩
    unfold b_S_prepare_83
    simp (disch := omega) only [l192, zI_le]
    rw [if_pos (by omega)]
  | succ d ih =>
    intro k fu h R hk hf E B S hR
    obtain ⟨fu, rfl⟩ : ∃ q, fu = q + 1 := ⟨fu - 1, by omega⟩
    unfold b_S_prepare_83
    simp (disch := omega) only [l192, zI_le]
    rw [if_neg (by omega), sg0 S, bd, b_on B.1, l8, zI_div (by omega) (by omega) (by omega) (by omega), zI_rem (by omega) (by omega) (by omega) (by omega), s_B_shallowest E W B.1 B.2.1 (by omega) (by omega) (by omega) (by omega), bd]
    obtain ⟨h1, e1, m1, S1⟩ := sr_put S 1 (c := 18) (k := (k : Int)) rfl (by omega) (by omega) (shal v ((k : Int) / 8) ((k : Int) % 8)) (by omega) (show (k : Int) < (192 : Nat) by omega)
    rw [e1, bd, l1, zI_add]
    obtain ⟨h2, R2, e2, m2, S2, q1, q2⟩ := ih (k + 1) fu h1 _ (by omega) (by omega) (m1.es E) (Bs_Sm m1 ha B) S1 (fun j hj => by
      show upI (R 1) ((k : Int)).toNat _ j = _
      by_cases c : j = k
      · rw [c, Int.toNat_natCast, upI_s]
      · rw [upI_n _ _ (by omega)]; exact hR j (by omega))
    refine ⟨h2, R2, e2, m1.tr m2, S2, fun j hj => ?_, q2⟩
    rw [q1 j hj]
    unfold upR
    rw [if_neg hj]
theorem s_stateOf {c t p : Int} : f_S_stateOf (zI c) (zI t) (zI p) = zI (24 * c + 3 * t + p) := by
  unfold f_S_stateOf
  rw [l8, l3, zI_mul, zI_add, zI_mul, zI_add]
  congr 1
  omega
theorem s_prep53 {F : Nat} (hF : 1000000 ≤ F) {a : Nat} (ha : 26 ≤ a) {v : Nat → Int} (W : Wv v) {h : MH} {R : Nat → Nat → Int} (E : Es h) (B : Bs h a v) (S : Sr h R) (p : Int) :
    ∃ h' R', b_S_prepare_53 F (some 17) (some a) (some 17) (zI (v 14)) (zI (v 15)) (zI p) h = some h' ∧ Sm h h' ∧ Sr h' R' ∧ R' 0 0 = R 0 0 ∧ R' 0 1 = R 0 1 ∧ R' 0 2 = 24 * v 14 + 3 * v 15 + p ∧ R' 0 3 = 0 ∧ (∀ s : Nat, s < 576 → R' 2 s = 1000000) ∧ (∀ k : Nat, k < 21 → R' 6 k = -1) ∧ ∀ j : Nat, j < 192 → R' 1 j = shal v ((j : Int) / 8) ((j : Int) % 8) := by
  unfold b_S_prepare_53
  rw [s_stateOf]
  obtain ⟨h1, e1, m1, S1⟩ := sr_pf S 2 (c := 10) rfl (by omega) (24 * v 14 + 3 * v 15 + p)
  rw [e1, bd, l0]
  obtain ⟨h2, e2, m2, S2⟩ := sr_pf S1 3 (c := 11) rfl (by omega) 0
  rw [e2, bd, sg1 S2, bd, lE6]
  obtain ⟨h3, R3, e3, m3, S3, q1, q2⟩ := sr_fill S2 hF 2 (c := 19) rfl (by omega) (by omega) 1000000
  rw [e3, bd, sg5 S3, bd, lm1]
  obtain ⟨h4, R4, e4, m4, S4, q3, q4⟩ := sr_fill S3 hF 6 (c := 23) rfl (by omega) (by omega) (-1)
  rw [e4, bd]
  have m5 := m1.tr (m2.tr (m3.tr m4))
  obtain ⟨h5, R5, e5, m6, S5, q5, q6⟩ := s_prep83 (F := F) ha W 192 0 F h4 R4 rfl (by omega) (m5.es E) (Bs_Sm m5 ha B) S4 (fun j hj => by omega)
  refine ⟨h5, R5, e5, m5.tr m6, S5, ?_, ?_, ?_, ?_, ?_, ?_, q6⟩
  · rw [q5 0 (by decide), q3 0 (by decide), q1 0 (by decide)]; rfl
  · rw [q5 0 (by decide), q3 0 (by decide), q1 0 (by decide)]; rfl
  · rw [q5 0 (by decide), q3 0 (by decide), q1 0 (by decide)]; rfl
  · rw [q5 0 (by decide), q3 0 (by decide), q1 0 (by decide)]; rfl
  · intro s hs
    rw [q5 2 (by decide), q3 2 (by decide)]
    exact q2 s hs
  · intro k hk
    rw [q5 6 (by decide)]
    exact q4 k hk
theorem s_prepare {F : Nat} (hF : 1000000 ≤ F) {a : Nat} (ha : 26 ≤ a) {v : Nat → Int} (W : Wv v) {h : MH} {R : Nat → Nat → Int} (E : Es h) (B : Bs h a v) (S : Sr h R) (D : Int) :
    ∃ h' R', f_S_prepare F (some 17) (some a) (zI D) h = some h' ∧ Sm h h' ∧ Sr h' R' ∧ R' 0 0 = D ∧ R' 0 1 = leV v ∧ R' 0 2 = pj (leV v) (ndV v) ∧ R' 0 3 = 0 ∧ (∀ s : Nat, s < 576 → R' 2 s = 1000000) ∧ (∀ k : Nat, k < 21 → R' 6 k = -1) ∧ ∀ j : Nat, j < 192 → R' 1 j = shal v ((j : Int) / 8) ((j : Int) % 8) := by
  have w1 := W.1
  have w15 := W.2.2.2.2.2.2.2.1
  have w17 := W.2.2.2.2.2.2.2.2.2.1
  unfold f_S_prepare
  obtain ⟨h1, e1, m1, S1⟩ := sr_pf S 0 (c := 8) rfl (by omega) D
  have B1 := Bs_Sm m1 ha B
  obtain ⟨g0, g1, g2, g3, g4, g5, g6, g7, g8, g9, g10⟩ := b_g B1.1
  rw [e1, bd, b_on B1.1, s_B_isBlown B1.1 W, bd, g0]
  simp only [ite_01, bd]
  have key : ∀ l : Int, -1 ≤ l → l ≤ 7 → l = leV v → ∃ h' R', b_S_prepare_23 F (some 17) (some a) (some 17) (zI l) h1 = some h' ∧ Sm h h' ∧ Sr h' R' ∧ R' 0 0 = D ∧ R' 0 1 = leV v ∧ R' 0 2 = pj (leV v) (ndV v) ∧ R' 0 3 = 0 ∧ (∀ s : Nat, s < 576 → R' 2 s = 1000000) ∧ (∀ k : Nat, k < 21 → R' 6 k = -1) ∧ ∀ j : Nat, j < 192 → R' 1 j = shal v ((j : Int) / 8) ((j : Int) % 8) := by
    intro l hl1 hl2 hl
    unfold b_S_prepare_23
    obtain ⟨h2, e2, m2, S2⟩ := sr_pf S1 1 (c := 9) rfl (by omega) l
    have B2 := Bs_Sm m2 ha B1
    obtain ⟨g0, g1, g2, g3, g4, g5, g6, g7, g8, g9, g10⟩ := b_g B2.1
    rw [e2, bd, g3, bd, g4, bd, sg9 S2, bd]
    have x9 : (upR (upR R 0 (upI (R 0) 0 D)) 0 (upI ((upR R 0 (upI (R 0) 0 D)) 0) 1 l)) 0 1 = l := rfl
    rw [x9]
    simp (disch := omega) only [lm1, zI_eq]
    have fin : ∀ p : Int, 24 * v 14 + 3 * v 15 + p = pj (leV v) (ndV v) → ∃ h' R', b_S_prepare_53 F (some 17) (some a) (some 17) (zI (v 14)) (zI (v 15)) (zI p) h2 = some h' ∧ Sm h h' ∧ Sr h' R' ∧ R' 0 0 = D ∧ R' 0 1 = leV v ∧ R' 0 2 = pj (leV v) (ndV v) ∧ R' 0 3 = 0 ∧ (∀ s : Nat, s < 576 → R' 2 s = 1000000) ∧ (∀ k : Nat, k < 21 → R' 6 k = -1) ∧ ∀ j : Nat, j < 192 → R' 1 j = shal v ((j : Int) / 8) ((j : Int) % 8) := by
      intro p hp
      obtain ⟨h3, R3, e3, m3, S3, q1, q2, q3, q4, q5, q6, q7⟩ := s_prep53 hF ha W ((m1.tr m2).es E) B2 S2 p
      exact ⟨h3, R3, e3, (m1.tr m2).tr m3, S3, by rw [q1]; rfl, by rw [q2, ← hl]; rfl, by rw [q3, hp], q4, q5, q6, q7⟩
    by_cases c : l = -1
    · rw [if_pos c, l0]
      refine fin 0 ?_
      unfold pj ndV
      rw [if_pos (by omega)]
      omega
    · rw [if_neg c, g6, bd, l3, zI_rem (by omega) (by omega) (by omega) (by omega)]
      refine fin (v 17 % 3) ?_
      unfold pj ndV
      rw [if_neg (by omega)]
  by_cases c : v 16 = 0 ∧ 0 < v 1
  · rw [if_neg (fun z => z c), l1, zI_sub]
    exact key _ (by omega) (by omega) (by unfold leV; rw [if_pos c])
  · rw [if_pos c, lm1]
    exact key _ (by omega) (by omega) (by unfold leV; rw [if_neg c])
/-! ===== the paces ===== -/
def pace (v : Nat → Int) (i : Nat) (m : Nat) : Nat := if v (5 + i) = 5 then m + 2 else m
/-- what the first n hands, and the moves ahead of mm of the next, have given -/
def PcI (v : Nat → Int) (n mm : Nat) (pa pr : Nat → Int) : Prop :=
  (∀ p : Nat, p < 10 → pa p = -1000000 ∨ ∃ i m : Nat, (i : Int) < v 4 ∧ m < 8 ∧ mk (v (5 + i)) m = true ∧ pace v i m = p ∧ pr p = i ∧ pa p = vMin v i m) ∧
  (∀ i m : Nat, (i < n ∨ (i = n ∧ m < mm)) → (i : Int) < v 4 → m < 8 → mk (v (5 + i)) m = true → pa (pace v i m) ≠ -1000000 ∧ pa (pace v i m) ≤ vMin v i m ∧ (pa (pace v i m) = vMin v i m → pr (pace v i m) ≤ i)) ∧
  ∀ p : Nat, p < 10 → pa p ≠ -1000000 → pr p ≤ n
theorem mk_lift : ∀ s m : Int, 1 ≤ s → s ≤ 5 → 0 ≤ m → m < 8 → mk s m = true → s = 5 → 6 ≤ m := mj_5x8 (by decide +kernel)
theorem pace_r {v : Nat → Int} (W : Wv v) {i m : Nat} (hi : (i : Int) < v 4) (hm : m < 8) : pace v i m < 10 := by
  unfold pace
  split <;> omega
theorem sM_min {v : Nat → Int} (i : Nat) (m : Int) (h : mk (v (5 + i)) m = true) : sM (v (5 + i)) (v (9 + i)) m = vMin v i m := by
  unfold sM vMin
  rw [if_pos h]
theorem s_pac63 {F : Nat} {v : Nat → Int} (W : Wv v) {h : MH} {R : Nat → Nat → Int} (S : Sr h R) {n m : Nat} (hn : (n : Int) < v 4) (hm : m < 8) (P : PcI v n m (R 7) (R 8)) (k11 : (Option Nat) → (Option Nat) → Int32 → MH → (Option MH)) (k28 : (Option Nat) → (Option Nat) → Int32 → (Option Nat) → Int32 → MH → (Option MH)) (a q : Option Nat) :
    ∃ h' R', b_S_choosePacers_63 F k11 k28 (some 17) a (zI n) q (zI m) (zI (sM (v (5 + n)) (v (9 + n)) m)) (zI ((pace v n m : Nat) : Int)) h = k28 (some 17) a (zI n) q (zI ((m + 1 : Nat) : Int)) h' ∧ Sm h h' ∧ Sr h' R' ∧ (∀ j, j < 7 → R' j = R j) ∧ PcI v n (m + 1) (R' 7) (R' 8) := by
  have w5 := W.2.2.2.2.1 n hn
  have hp := pace_r W hn hm
  obtain ⟨P1, P2, P3⟩ := id P
  have e121 : ∀ g, b_S_choosePacers_121 F k11 k28 (some 17) a (zI n) q (zI m) g = k28 (some 17) a (zI n) q (zI ((m + 1 : Nat) : Int)) g := by
    intro g
    unfold b_S_choosePacers_121
    rw [l1, zI_add]
    rfl
  have skip : (mk (v (5 + n)) m = true → R 7 (pace v n m) ≠ -1000000 ∧ R 7 (pace v n m) ≤ vMin v n m) → ∃ h' R', b_S_choosePacers_121 F k11 k28 (some 17) a (zI n) q (zI m) h = k28 (some 17) a (zI n) q (zI ((m + 1 : Nat) : Int)) h' ∧ Sm h h' ∧ Sr h' R' ∧ (∀ j, j < 7 → R' j = R j) ∧ PcI v n (m + 1) (R' 7) (R' 8) := by
    intro hs
    refine ⟨h, R, e121 h, Sm_0 h, S, fun j _ => rfl, P1, fun i m' h1 h2 h3 h4 => ?_, P3⟩
    by_cases c : i = n ∧ m' = m
    · obtain ⟨rfl, rfl⟩ := c
      obtain ⟨s1, s2⟩ := hs h4
      exact ⟨s1, s2, fun _ => P3 _ hp s1⟩
    · exact P2 i m' (by omega) h2 h3 h4
  have take : mk (v (5 + n)) m = true → (R 7 (pace v n m) = -1000000 ∨ vMin v n m < R 7 (pace v n m)) → ∃ h' R', b_S_choosePacers_100 F k11 k28 (some 17) a (zI n) q (zI m) (zI (vMin v n m)) (zI ((pace v n m : Nat) : Int)) h = k28 (some 17) a (zI n) q (zI ((m + 1 : Nat) : Int)) h' ∧ Sm h h' ∧ Sr h' R' ∧ (∀ j, j < 7 → R' j = R j) ∧ PcI v n (m + 1) (R' 7) (R' 8) := by
    intro hk hs
    have hmi := vMin_r W hn m
    unfold b_S_choosePacers_100
    rw [sg6 S, bd]
    obtain ⟨h1, e1, m1, S1⟩ := sr_put S 7 (c := 24) (k := ((pace v n m : Nat) : Int)) rfl (by omega) (by omega) (vMin v n m) (by omega) (show ((pace v n m : Nat) : Int) < (10 : Nat) by omega)
    rw [e1, bd, sg7 S1, bd]
    obtain ⟨h2, e2, m2, S2⟩ := sr_put S1 8 (c := 25) (k := ((pace v n m : Nat) : Int)) rfl (by omega) (by omega) (n : Int) (by omega) (show ((pace v n m : Nat) : Int) < (10 : Nat) by omega)
    rw [e2, bd, e121]
    refine ⟨h2, _, rfl, m1.tr m2, S2, fun j hj => ?_, ?_⟩
    · unfold upR
      rw [if_neg (by omega), if_neg (by omega)]
    · show PcI v n (m + 1) (upI (R 7) ((pace v n m : Nat) : Int).toNat (vMin v n m)) (upI (R 8) ((pace v n m : Nat) : Int).toNat n)
      rw [Int.toNat_natCast]
      refine ⟨fun p hp2 => ?_, fun i m' h1 h2 h3 h4 => ?_, fun p hp2 h1 => ?_⟩
      · by_cases c : p = pace v n m
        · rw [c, upI_s, upI_s]
          exact Or.inr ⟨n, m, hn, hm, hk, rfl, rfl, rfl⟩
        · rw [upI_n _ _ c, upI_n _ _ c]
          exact P1 p hp2
      · by_cases c : pace v i m' = pace v n m
        · rw [c, upI_s, upI_s]
          refine ⟨by omega, ?_, ?_⟩
          · by_cases c2 : i = n ∧ m' = m
            · obtain ⟨rfl, rfl⟩ := c2
              exact Int.le_refl _
            · have := P2 i m' (by omega) h2 h3 h4
              rw [c] at this
              omega
          · intro z
            by_cases c2 : i = n ∧ m' = m
            · omega
            · have := P2 i m' (by omega) h2 h3 h4
              rw [c] at this
              omega
        · rw [upI_n _ _ c, upI_n _ _ c]
          exact P2 i m' (by
            by_cases c2 : i = n ∧ m' = m
            · obtain ⟨rfl, rfl⟩ := c2
              exact absurd rfl c
            · omega) h2 h3 h4
      · by_cases c : p = pace v n m
        · rw [c, upI_s]; omega
        · rw [upI_n _ _ c] at h1 ⊢
          exact P3 p hp2 h1
  unfold b_S_choosePacers_63
  have hsr : -1000000 ≤ sM (v (5 + n)) (v (9 + n)) m ∧ sM (v (5 + n)) (v (9 + n)) m ≤ 100 := by
    unfold sM
    (repeat' split) <;> omega
  have hR7 : -1000000 ≤ R 7 (pace v n m) ∧ R 7 (pace v n m) ≤ 1000 := by
    rcases P1 _ hp with e | ⟨i, m', i1, i2, i3, i4, i5, i6⟩
    · omega
    · have := vMin_r W i1 m'
      omega
  simp only [sg6 S, bd, sr_at S 7 (c := 24) (k := ((pace v n m : Nat) : Int)) rfl (by omega) (by omega) (by omega) (show ((pace v n m : Nat) : Int) < (10 : Nat) by omega), Int.toNat_natCast]
  simp (disch := omega) only [lN0, zI_eq, zI_le]
  cases hk : mk (v (5 + n)) m with
  | false =>
    rw [if_pos (by unfold sM; rw [hk]; rfl)]
    exact skip (fun z => by rw [hk] at z; cases z)
  | true =>
    have hmi := vMin_r W hn m
    rw [sM_min n m hk, if_neg (by omega)]
    by_cases c1 : R 7 (pace v n m) = -1000000
    · rw [if_pos c1]
      exact take hk (Or.inl c1)
    · rw [if_neg c1]
      by_cases c2 : R 7 (pace v n m) ≤ vMin v n m
      · rw [if_pos c2]
        exact skip (fun _ => ⟨c1, c2⟩)
      · rw [if_neg c2]
        exact take hk (Or.inr (by omega))
theorem s_pac28 {F : Nat} {a : Nat} (ha : 26 ≤ a) {v : Nat → Int} (W : Wv v) {n : Nat} (hn : (n : Int) < v 4) (k11 : (Option Nat) → (Option Nat) → Int32 → MH → (Option MH)) {q : Nat} (hq : 48 ≤ q) : ∀ (d m fu : Nat) (h : MH) (R : Nat → Nat → Int), m + d = 8 → d < fu → Sr h R → h.1 q = hC (v (5 + n)) n (v (9 + n)) → PcI v n m (R 7) (R 8) →
    ∃ h' R', b_S_choosePacers_28 F k11 fu (some 17) (some a) (zI n) (some q) (zI m) h = k11 (some 17) (some a) (zI ((n + 1 : Nat) : Int)) h' ∧ Sm h h' ∧ Sr h' R' ∧ (∀ j, j < 7 → R' j = R j) ∧ PcI v n 8 (R' 7) (R' 8) := by
  have w5 := W.2.2.2.2.1 n hn
  intro d
  induction d with
  | zero =>
    intro m fu h R hd hf S H P
    obtain ⟨fu, rfl⟩ : ∃ q, fu = q + 1 := ⟨fu - 1, by omega⟩
    refine ⟨h, R, ?_, Sm_0 h, S, fun j _ => rfl, by rw [show m = 8 by omega] at P; exact P⟩
    unfold b_S_choosePacers_28 b_S_choosePacers_127
    simp (disch := omega) only [l8, l1, zI_le, zI_add]
    rw [if_pos (by omega)]
    rfl
  | succ d ih =>
    intro m fu h R hd hf S H P
    obtain ⟨fu, rfl⟩ : ∃ q, fu = q + 1 := ⟨fu - 1, by omega⟩
    obtain ⟨h1, R1, e1, m1, S1, q1, P1⟩ := s_pac63 (F := F) W S hn (show m < 8 by omega) P k11 (b_S_choosePacers_28 F k11 fu) (some a) (some q)
    obtain ⟨h2, R2, e2, m2, S2, q2, P2⟩ := ih (m + 1) fu h1 R1 (by omega) (by omega) S1 (by rw [m1.2 q (by omega)]; exact H) P1
    refine ⟨h2, R2, ?_, m1.tr m2, S2, fun j hj => (q2 j hj).trans (q1 j hj), P2⟩
    have hu : b_S_choosePacers_28 F k11 (fu + 1) (some 17) (some a) (zI n) (some q) (zI m) h = b_S_choosePacers_63 F k11 (b_S_choosePacers_28 F k11 fu) (some 17) (some a) (zI n) (some q) (zI m) (zI (sM (v (5 + n)) (v (9 + n)) m)) (zI ((pace v n m : Nat) : Int)) h := by
      conv => lhs; unfold b_S_choosePacers_28
      have x8 : (8 : Int32) ≤ zI (m : Int) ↔ 8 ≤ (m : Int) := zI_le (a := 8) (by omega) (by omega) (by omega) (by omega)
      simp only [x8]
      rw [if_neg (show ¬ 8 ≤ (m : Int) by omega), if_neg (by intro z; cases z), s_H_min H w5.1 w5.2.1 w5.2.2.1 w5.2.2.2 (by omega) (by omega), s_H_lift H w5.1 w5.2.1]
      simp only [bd]
      unfold pace
      by_cases c : v (5 + n) = 5
      · rw [if_pos c, if_neg (by decide), if_pos c, l2, zI_add]
        rfl
      · rw [if_neg c, if_pos (by decide), if_neg c]
    rw [hu, e1, e2]
theorem s_pac11 {F : Nat} (hF : 100 ≤ F) {a : Nat} (ha : 26 ≤ a) {v : Nat → Int} (W : Wv v) : ∀ (d n fu : Nat) (h : MH) (R : Nat → Nat → Int), (n : Int) + d = v 4 → d < fu → Sr h R → Bs h a v → PcI v n 0 (R 7) (R 8) →
    ∃ h' R', b_S_choosePacers_11 F fu (some 17) (some a) (zI n) h = some h' ∧ Sm h h' ∧ Sr h' R' ∧ (∀ j, j < 7 → R' j = R j) ∧ PcI v (v 4).toNat 0 (R' 7) (R' 8) := by
  have w4 := W.2.2.2.1
  intro d
  induction d with
  | zero =>
    intro n fu h R hd hf S B P
    obtain ⟨fu, rfl⟩ : ∃ q, fu = q + 1 := ⟨fu - 1, by omega⟩
    obtain ⟨g0, g1, g2, g3, g4, g5, g6, g7, g8, g9, g10⟩ := b_g B.1
    refine ⟨h, R, ?_, Sm_0 h, S, fun j _ => rfl, by rw [show (v 4).toNat = n by omega]; exact P⟩
    unfold b_S_choosePacers_11
    rw [g8, bd]
    simp (disch := omega) only [zI_le]
    rw [if_pos (by omega)]
  | succ d ih =>
    intro n fu h R hd hf S B P
    obtain ⟨fu, rfl⟩ : ∃ q, fu = q + 1 := ⟨fu - 1, by omega⟩
    obtain ⟨g0, g1, g2, g3, g4, g5, g6, g7, g8, g9, g10⟩ := b_g B.1
    obtain ⟨q, q1, q2, q3⟩ := s_handAt B W (i := n) (by omega)
    unfold b_S_choosePacers_11
    rw [g8, bd, b_on B.1, q1, bd]
    simp (disch := omega) only [zI_le]
    rw [if_neg (by omega), l0]
    obtain ⟨h1, R1, e1, m1, S1, r1, P1⟩ := s_pac28 (F := F) ha W (n := n) (by omega) (b_S_choosePacers_11 F fu) q2 8 0 F h R rfl (by omega) S q3 P
    rw [show zI 0 = zI ((0 : Nat) : Int) from rfl, e1]
    have P1' : PcI v (n + 1) 0 (R1 7) (R1 8) := ⟨P1.1, fun i m h1 h2 h3 h4 => P1.2.1 i m (by omega) h2 h3 h4, fun p h1 h2 => by have := P1.2.2 p h1 h2; omega⟩
    obtain ⟨h2, R2, e2, m2, S2, r2, P2⟩ := ih (n + 1) fu h1 R1 (by omega) (by omega) S1 (Bs_Sm m1 ha B) P1'
    exact ⟨h2, R2, e2, m1.tr m2, S2, fun j hj => (r2 j hj).trans (r1 j hj), P2⟩
def mo (p : Nat) : Int := if p < 8 then p else (p : Int) - 2
/-- the paces: for each the first of the fastest hands -/
def Pc (v : Nat → Int) (pa pr : Nat → Int) : Prop :=
  (∀ p : Nat, p < 10 → pa p = -1000000 ∨ (0 ≤ pr p ∧ pr p < v 4 ∧ mk (v (5 + (pr p).toNat)) (mo p) = true ∧ (v (5 + (pr p).toNat) = 5 ↔ 8 ≤ p) ∧ pa p = vMin v (pr p).toNat (mo p))) ∧
  ∀ i m : Nat, (i : Int) < v 4 → m < 8 → mk (v (5 + i)) m = true → ∃ p : Nat, p < 10 ∧ mo p = m ∧ (v (5 + i) = 5 ↔ 8 ≤ p) ∧ pa p ≠ -1000000 ∧ pa p ≤ vMin v i m ∧ (pa p = vMin v i m → pr p ≤ i)
theorem pace_mo {v : Nat → Int} (W : Wv v) {i m : Nat} (hi : (i : Int) < v 4) (hm : m < 8) (hk : mk (v (5 + i)) m = true) : mo (pace v i m) = m ∧ (v (5 + i) = 5 ↔ 8 ≤ pace v i m) := by
  have w5 := W.2.2.2.2.1 i hi
  have := mk_lift (v (5 + i)) m w5.1 w5.2.1 (by omega) (by omega) hk
  unfold mo pace
  by_cases c : v (5 + i) = 5
  · have := this c
    rw [if_pos c, if_neg (by omega)]
    exact ⟨by omega, ⟨fun _ => by omega, fun _ => c⟩⟩
  · rw [if_neg c, if_pos (by omega)]
    exact ⟨rfl, ⟨fun z => absurd z c, fun z => by omega⟩⟩
theorem s_choosePacers {F : Nat} (hF : 1000000 ≤ F) {a : Nat} (ha : 26 ≤ a) {v : Nat → Int} (W : Wv v) {h : MH} {R : Nat → Nat → Int} (B : Bs h a v) (S : Sr h R) :
    ∃ h' R', f_S_choosePacers F (some 17) (some a) h = some h' ∧ Sm h h' ∧ Sr h' R' ∧ (∀ j, j < 7 → R' j = R j) ∧ Pc v (R' 7) (R' 8) := by
  have w4 := W.2.2.2.1
  unfold f_S_choosePacers
  rw [sg6 S, bd, lN0]
  obtain ⟨h1, R1, e1, m1, S1, q1, q2⟩ := sr_fill S hF 7 (c := 24) rfl (by omega) (by omega) (-1000000)
  rw [e1, bd, l0]
  obtain ⟨h2, R2, e2, m2, S2, r2, P2⟩ := s_pac11 (F := F) (by omega) ha W (v 4).toNat 0 F h1 R1 (by omega) (by omega) S1 (Bs_Sm m1 ha B) ⟨fun p hp => Or.inl (q2 p hp), fun i m h1 h2 h3 h4 => by omega, fun p hp h1 => absurd (q2 p hp) h1⟩
  refine ⟨h2, R2, e2, m1.tr m2, S2, fun j hj => (r2 j hj).trans (q1 j (by omega)), fun p hp => ?_, fun i m hi hm hk => ?_⟩
  · rcases P2.1 p hp with e | ⟨i, m, i1, i2, i3, i4, i5, i6⟩
    · exact Or.inl e
    · obtain ⟨c1, c2⟩ := pace_mo W i1 i2 i3
      rw [i4] at c1 c2
      refine Or.inr ⟨by omega, by omega, ?_, ?_, ?_⟩
      · rw [i5, Int.toNat_natCast, c1]; exact i3
      · rw [i5, Int.toNat_natCast]; exact c2
      · rw [i5, Int.toNat_natCast, c1]; exact i6
  · obtain ⟨c1, c2⟩ := pace_mo W hi hm hk
    exact ⟨pace v i m, pace_r W hi hm, c1, c2, P2.2.1 i m (by omega) hi hm hk⟩
