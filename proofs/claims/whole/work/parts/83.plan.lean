/-! ===== plan ===== -/
section
variable {F : Nat} {P : Nat → Nat → Int}
theorem c_handG {h : MH} {a : Nat} {v : Nat → Int} (B : Bs h a v) (W : Wv v) {n : Int} (h1 : -2147483648 ≤ n) (h2 : n < 2147483648) : (¬ (0 ≤ n ∧ n < v 4) ∧ f_B_handAt (some a) (zI n) h = some none) ∨ ((0 ≤ n ∧ n < v 4) ∧ ∃ p, f_B_handAt (some a) (zI n) h = some (some p) ∧ 48 ≤ p ∧ h.1 p = hC (v (5 + n.toNat)) ((n.toNat : Nat) : Int) (v (9 + n.toNat))) := by
  by_cases c : 0 ≤ n ∧ n < v 4
  · refine Or.inr ⟨c, ?_⟩
    obtain ⟨p, p1, p2, p3⟩ := s_handAt B W (i := n.toNat) (by omega)
    rw [Int.toNat_of_nonneg c.1] at p1
    exact ⟨p, p1, p2, p3⟩
  · exact Or.inl ⟨c, s_handAt_no B W h1 h2 c⟩
/-- a trial of the class makes a move -/
theorem Bx_make {h : MH} {a : Nat} (E : Es h) (ha : 3 ≤ a) {u : Nat → Int} (W : Wv u) (h17 : u 17 < 50000) (B : Bx h a u) {i : Nat} {m : Int} (m1 : 0 ≤ m) (m2 : m < 8) {u' : Nat → Int} (hg : goV u i m 0 = some u') : f_B_make (some a) (zI m) h = some (mj_up h a (bO u' a)) ∧ Bx (mj_up h a (bO u' a)) a u' := by
  obtain ⟨W', h17', hs⟩ := goV_W W h17 hg
  exact ⟨s_B_make E ha W h17 B.1.1 B.1.2.1 m1 m2 hg, bx_up W B (hs 4 (by decide) (by decide) (by decide)) (fun q hq => ⟨hs _ (by omega) (by omega) (by omega), hs _ (by omega) (by omega) (by omega)⟩) (fun q => hs _ (by omega) (by omega) (by omega))⟩
theorem s_planned {r s n w : Int} (hr : 0 ≤ r ∧ r < 8) (hs : 0 ≤ s) (hn : 0 ≤ n ∧ n ≤ 40) (hsn : s + n ≤ P 3 r.toNat) (hla : P 2 r.toNat ≠ 0) : ∀ (d k fuC fuM : Nat) (h g : MH) (Q : Nat → Nat → Int) (u : Nat → Int) (mins : Int), (k : Int) + d = n → d < fuC → d + 1 < fuM → Es h → CR h P → Bx h 29 u → Mr g Q → Q 7 = u → Q 6 = P 6 → Q 4 = P 4 → Wv u → Wz u → Wv (P 6) → u 17 ≤ 1000 + k → (∀ q, q ≠ 14 → q ≠ 15 → q ≠ 17 → u q = P 6 q) → 0 ≤ mins ∧ mins ≤ 20 * k →
    ∃ x h' g' f, b_C_planned_20 F fuC (some 3) (zI r) (zI s) (zI n) (zI w) (zI (k : Int)) (zI mins) (zI (k : Int)) h = some (x, h') ∧ Ch 29 31 h h' ∧ CR h' P ∧ b_M_plan_91 F fuM (some 34) (zI r) (zI s) (zI n) (zI w) (zI (k : Int)) (zI mins) 1 (zI (k : Int)) g = some (x, g') ∧ Ch 34 47 g g' ∧ Mr g' (fd (upR Q 7 f) 0) ∧ Wz f := by
  intro d
  induction d with
  | zero =>
    intro k fuC fuM h g Q u mins hk hf hf2 E C B M q7 q6 q4 W Z W6 h17 hsame hm
    obtain ⟨fuC, rfl⟩ : ∃ q, fuC = q + 1 := ⟨fuC - 1, by omega⟩
    obtain ⟨fuM, rfl⟩ : ∃ q, fuM = q + 1 := ⟨fuM - 1, by omega⟩
    have x1 : zI n ≤ zI (k : Int) ↔ n ≤ (k : Int) := zI_le (by omega) (by omega) (by omega) (by omega)
    obtain ⟨g', e1, c1, N1⟩ := m_is M (if zI w = 0 then zI (k : Int) else zI mins)
    refine ⟨if zI w = 0 then zI (k : Int) else zI mins, h, g', u, ?_, Ch_0 _ _ h, C, ?_, c1, ?_, Z⟩
    · unfold b_C_planned_20 b_C_planned_132
      simp only [x1]
      rw [if_pos (by omega)]
      by_cases c : zI w = 0
      · rw [if_pos c, if_pos c]
      · rw [if_neg c, if_neg c]
    · unfold b_M_plan_91 b_M_plan_225 b_M_plan_238
      simp only [x1]
      rw [if_pos (by omega), mr_on M, mr_on M]
      by_cases c : zI w = 0
      · rw [if_pos c] at e1 ⊢
        rw [if_pos c, e1]
        rfl
      · rw [if_neg c] at e1 ⊢
        rw [if_neg c, e1]
        rfl
    · refine N1.cg (fun j _ => ?_)
      unfold fd upR
      by_cases c : j = 0
      · rw [if_pos c, if_pos c, if_neg (by decide)]
      · rw [if_neg c, if_neg c]
        by_cases c7 : j = 7
        · rw [if_pos c7, c7, q7]
        · rw [if_neg c7]
  | succ d ih =>
    intro k fuC fuM h g Q u mins hk hf hf2 E C B M q7 q6 q4 W Z W6 h17 hsame hm
    obtain ⟨fuC, rfl⟩ : ∃ q, fuC = q + 1 := ⟨fuC - 1, by omega⟩
    obtain ⟨fuM, rfl⟩ : ∃ q, fuM = q + 2 := ⟨fuM - 2, by omega⟩
    have w4 := W.2.2.2.1
    have hle := (C.2.1.r (r := r.toNat) (by omega)).2
    have x1 : zI n ≤ zI (k : Int) ↔ n ≤ (k : Int) := zI_le (by omega) (by omega) (by omega) (by omega)
    have x1' : zI n ≤ zI ((k + 1 : Nat) : Int) ↔ n ≤ ((k + 1 : Nat) : Int) := zI_le (by omega) (by omega) (by omega) (by omega)
    obtain ⟨x, xr1, xr2, hx⟩ := i_ex (zI (P 4 (40 * r.toNat + (s.toNat + k))))
    -- the item, of both
    have itC : onc h (some 4) 5 (f_Rw_item (some 4) (zI r) (zI s + zI (k : Int)) h) = some (zI x) := by
      rw [rw_on C.2.1]
      obtain ⟨la', le', it', y1, y2, y3, y4, y5⟩ := C.2.1
      have Y : RP h la' le' it' := ⟨y1, y2, y3, y4⟩
      obtain ⟨z1, z2, z3, z4, z5, z6⟩ := y5 r.toNat (by omega)
      unfold f_Rw_item
      rw [(rp0 Y).1, bd, l40, zI_mul, zI_add, zI_add, s_at_in Y.2.1 (by omega) (by omega) (by omega), bd]
      have := (z5 (by omega)).2 (s.toNat + k) (by omega)
      rw [show (r * 40 + (s + k)).toNat = 40 * r.toNat + (s.toNat + k) by omega, this, hx]
    have itM : ald g (some 38) 0 ((((40 : Int32) * zI r) + zI s) + zI (k : Int)) = some (zI x) := by
      have A : g.1 38 = aZ 320 (Q 4) := M.2 4 (by omega) (by omega)
      rw [l40, zI_mul, zI_add, zI_add, aldZ A (by omega) (by omega) (by omega), q4, ← hx]
      rw [show (40 * r + s + k).toNat = 40 * r.toNat + (s.toNat + k) by omega]
    have x0 : zI x < (0 : Int32) ↔ x < 0 := zI_lt (b := 0) (by omega) (by omega) (by omega) (by omega)
    have x0' : (0 : Int32) ≤ zI x ↔ 0 ≤ x := zI_le (a := 0) (by omega) (by omega) (by omega) (by omega)
    -- both stop
    have stop : ∀ g2 u2, Mr g2 (upR Q 7 u2) → Wz u2 → Ch 34 47 g g2 → ∃ g', b_M_plan_170 F (b_M_plan_91 F (fuM + 1)) (some 34) (zI r) (zI s) (zI n) (zI w) (zI (k : Int)) (zI mins) (zI (k : Int)) (zI x) g2 = some (if zI w = 0 then zI (k : Int) else zI mins, g') ∧ Ch 34 47 g g' ∧ Mr g' (fd (upR Q 7 u2) 0) := by
      intro g2 u2 M2 Z2 c2
      obtain ⟨g', e1, c1, N1⟩ := m_is M2 (if zI w = 0 then zI (k : Int) else zI mins)
      refine ⟨g', ?_, c2.tr c1, N1⟩
      have e225 : b_M_plan_225 F (some 34) (zI w) (zI (k : Int)) (zI mins) g2 = some (if zI w = 0 then zI (k : Int) else zI mins, g') := by
        unfold b_M_plan_225 b_M_plan_238
        rw [mr_on M2, mr_on M2]
        by_cases c : zI w = 0
        · rw [if_pos c] at e1 ⊢
          rw [if_pos c, e1]
          rfl
        · rw [if_neg c] at e1 ⊢
          rw [if_neg c, e1]
          rfl
      unfold b_M_plan_170 b_M_plan_171
      rw [if_pos rfl]
      unfold b_M_plan_185
      rw [if_pos rfl]
      unfold b_M_plan_216 b_M_plan_91
      rw [l0, zI_add, zI_add, Int.add_zero, Int.add_zero, e225]
      by_cases c : zI n ≤ zI (k : Int) + 1
      · rw [if_pos c]; rfl
      · rw [if_neg c, if_pos rfl]; rfl
    have endC : ∀ hh : MH, b_C_planned_132 F (zI w) (zI (k : Int)) (zI mins) hh = some (if zI w = 0 then zI (k : Int) else zI mins, hh) := by
      intro hh
      unfold b_C_planned_132
      by_cases c : zI w = 0
      · rw [if_pos c, if_pos c]
      · rw [if_neg c, if_neg c]
    have Mu : Mr g (upR Q 7 u) := M.cg (fun j _ => by
      unfold upR
      by_cases c7 : j = 7
      · rw [if_pos c7, c7, q7]
      · rw [if_neg c7])
    have huC : b_C_planned_20 F (fuC + 1) (some 3) (zI r) (zI s) (zI n) (zI w) (zI (k : Int)) (zI mins) (zI (k : Int)) h = if 0 ≤ x then (Option.bind (f_B_handAt (some 29) (zI x / (10 : Int32)) h) fun x9 => b_C_planned_61 F (b_C_planned_20 F fuC) (some 3) (zI r) (zI s) (zI n) (zI w) (zI (k : Int)) (zI mins) (zI (k : Int)) (zI x) x9 h) else b_C_planned_61 F (b_C_planned_20 F fuC) (some 3) (zI r) (zI s) (zI n) (zI w) (zI (k : Int)) (zI mins) (zI (k : Int)) (zI x) none h := by
      conv => lhs; unfold b_C_planned_20
      simp only [x1]
      rw [if_neg (by omega), cg0 C.1, bd, itC, bd]
      simp only [x0']
      rw [cg5 C.1, bd, b_on B.1.1]
    have huM : ∀ R, (if x < 0 then b_M_plan_170 F (b_M_plan_91 F (fuM + 1)) (some 34) (zI r) (zI s) (zI n) (zI w) (zI (k : Int)) (zI mins) (zI (k : Int)) (zI x) g else (Option.bind (f_M_isHand (some 34) (zI x / (10 : Int32)) g) fun x8 =>
          if x8 = 0 then
            b_M_plan_170 F (b_M_plan_91 F (fuM + 1)) (some 34) (zI r) (zI s) (zI n) (zI w) (zI (k : Int)) (zI mins) (zI (k : Int)) (zI x) g
          else
            if (8 : Int32) ≤ (mj_irem (zI x) (10 : Int32)) then
              b_M_plan_170 F (b_M_plan_91 F (fuM + 1)) (some 34) (zI r) (zI s) (zI n) (zI w) (zI (k : Int)) (zI mins) (zI (k : Int)) (zI x) g
            else
              Option.bind (f_M_goes (some 41) (zI x / (10 : Int32)) (mj_irem (zI x) (10 : Int32)) (0 : Int32) g) fun x14 =>
              if x14.1 = 0 then
                b_M_plan_170 F (b_M_plan_91 F (fuM + 1)) (some 34) (zI r) (zI s) (zI n) (zI w) (zI (k : Int)) (zI mins) (zI (k : Int)) (zI x) x14.2
              else
                b_M_plan_171 F (b_M_plan_91 F (fuM + 1)) (some 34) (zI r) (zI s) (zI n) (zI w) (zI (k : Int)) (zI mins) (zI (k : Int)) (zI x) (1 : Int32) x14.2)) = R → b_M_plan_91 F (fuM + 2) (some 34) (zI r) (zI s) (zI n) (zI w) (zI (k : Int)) (zI mins) 1 (zI (k : Int)) g = R := by
      intro R hR
      rw [← hR]
      conv => lhs; unfold b_M_plan_91
      simp only [x1]
      rw [if_neg (by omega), if_neg (by decide), mg12 M, bd, itM, bd]
      simp only [x0]
      rw [mr_on M, mg16 M, bd]
    by_cases c0 : 0 ≤ x
    · have hdiv : zI x / (10 : Int32) = zI (x / 10) := by rw [l10, zI_div (by omega) (by omega) (by omega) (by omega)]
      have hrem : mj_irem (zI x) (10 : Int32) = zI (x % 10) := by rw [l10, zI_rem (by omega) (by omega) (by omega) (by omega)]
      have hmod : 0 ≤ x % 10 ∧ x % 10 < 10 := by omega
      have hdr : 0 ≤ x / 10 ∧ x / 10 < 2147483648 := by omega
      obtain ⟨i, hi⟩ : ∃ i, x / 10 = i := ⟨_, rfl⟩
      obtain ⟨m, hmm⟩ : ∃ m, x % 10 = m := ⟨_, rfl⟩
      rw [hdiv, hi] at huC huM
      rw [hrem, hmm] at huM
      rw [hi] at hdr
      rw [hmm] at hmod
      have hMi : f_M_isHand (some 34) (zI i) g = some (if 0 ≤ i ∧ i < u 4 then 1 else 0) := by
        have := m_isHand (P := Q) M (by rw [q6]; exact W6) (n := i) (by omega) (by omega)
        rw [q6] at this
        rw [hsame 4 (by decide) (by decide) (by decide)]
        exact this
      rw [hMi] at huM
      rw [if_pos c0] at huC
      rw [if_neg (show ¬ x < 0 by omega)] at huM
      have x8 : (8 : Int32) ≤ zI m ↔ 8 ≤ m := zI_le (a := 8) (by omega) (by omega) (by omega) (by omega)
      have hwi : f_C_within (mj_irem (zI x) (10 : Int32)) (8 : Int32) = 0 ↔ ¬ (0 ≤ m ∧ m < 8) := by
        rw [hrem, hmm]
        exact s_within0 (b := 8) (by omega) (by omega) (by omega) (by omega)
      rcases c_handG B.1 W (n := i) (by omega) (by omega) with ⟨ci, ei⟩ | ⟨ci, p, ei, p2, p3⟩
      · obtain ⟨g', e1, c1, N1⟩ := stop g u Mu Z (Ch_0 _ _ g)
        refine ⟨if zI w = 0 then zI (k : Int) else zI mins, h, g', u, ?_, Ch_0 _ _ h, C, huM _ ?_, c1, N1, Z⟩
        · rw [huC, ei, bd]
          unfold b_C_planned_61
          rw [if_pos rfl, endC]
        · rw [if_neg ci, bd, if_pos rfl]
          exact e1
      · rw [if_pos ci, bd, if_neg (by decide)] at huM
        simp only [x8] at huM
        rw [ei, bd] at huC
        by_cases cm : m < 8
        · rw [if_neg (show ¬ 8 ≤ m by omega)] at huM
          have A : g.1 41 = aZ 42 u := by rw [← q7]; exact M.2 7 (by omega) (by omega)
          have hgo := s_M_goes A W (by omega) (i := i.toNat) (by omega) hmod.1 cm (less := 0) (by omega) (by omega)
          rw [Int.toNat_of_nonneg ci.1] at hgo
          have hcan := s_B_canMake E W B.1 (i := i.toNat) (by omega) p3 hmod.1 cm
          rw [show (0 : Int32) = zI 0 from rfl, hgo, bd] at huM
          cases hg : goV u i.toNat m 0 with
          | none =>
            obtain ⟨g', e1, c1, N1⟩ := stop g u Mu Z (Ch_0 _ _ g)
            refine ⟨if zI w = 0 then zI (k : Int) else zI mins, h, g', u, ?_, Ch_0 _ _ h, C, huM _ ?_, c1, N1, Z⟩
            · rw [huC]
              unfold b_C_planned_61
              simp only [hwi]
              rw [if_neg (by intro z; cases z), if_neg (show ¬ ¬ (0 ≤ m ∧ m < 8) from fun z => z ⟨hmod.1, cm⟩), cg5 C.1, bd, b_on B.1.1, hrem, hmm, hcan, bd, hg, if_pos (by rfl), endC]
            · rw [hg, if_pos (by rfl)]
              exact e1
          | some u' =>
            obtain ⟨W', h17', hs'⟩ := goV_W W (by omega) hg
            obtain ⟨emk, B2⟩ := Bx_make E (by omega) W (by omega) B hmod.1 cm hg
            have Z' : Wz u' := fun q hq => by rw [hs' q (by omega) (by omega) (by omega)]; exact Z q hq
            have c29 : Ch 29 31 h (mj_up h 29 (bO u' 29)) := Ch_up h _ (by omega) (by omega)
            have w5 := W.2.2.2.2.1 i.toNat (by omega)
            have hmin := s_H_min (h := mj_up h 29 (bO u' 29)) (p := p) ((c29.hk (by omega) p p2 ⟨_, _, _, p3⟩).trans p3) w5.1 w5.2.1 w5.2.2.1 w5.2.2.2 hmod.1 cm
            rw [sM_min i.toNat m (goV_mk hg)] at hmin
            have hv : vMin (P 6) i.toNat m = vMin u i.toNat m := by
              unfold vMin
              rw [hsame _ (by omega) (by omega) (by omega)]
            have hmr := vMin_r W (i := i.toNat) (by omega) m
            obtain ⟨q1, N2⟩ := mr_ar M 7 (c := 41) rfl (by omega) (by omega) u'
            have q1 : Ch 34 47 g (mj_up g 41 (aZ 42 u')) := q1
            have N2 : Mr (mj_up g 41 (aZ 42 u')) (upR Q 7 u') := N2
            obtain ⟨x', h3, g3, f, e3, c3, C3, e4, c4, N4, Zf⟩ := ih (k + 1) fuC (fuM + 1) (mj_up h 29 (bO u' 29)) (mj_up g 41 (aZ 42 u')) (upR Q 7 u') u' (mins + vMin u i.toNat m) (by omega) (by omega) (by omega) (c29.es (by omega) E) (C.tr c29 B2) B2 N2 rfl q6 q4 W' Z' W6 (by omega) (fun q a1 a2 a3 => by rw [hs' q a1 a2 a3, hsame q a1 a2 a3]) (by omega)
            refine ⟨x', h3, g3, f, ?_, c29.tr c3, C3, huM _ ?_, q1.tr c4, N4.cg (fun j _ => ?_), Zf⟩
            · rw [huC]
              unfold b_C_planned_61
              simp only [hwi]
              rw [if_neg (by intro z; cases z), if_neg (show ¬ ¬ (0 ≤ m ∧ m < 8) from fun z => z ⟨hmod.1, cm⟩), cg5 C.1, bd, b_on B.1.1, hrem, hmm, hcan, bd, hg, show (if (some u').isSome = true then (1 : Int32) else 0) = 1 from rfl, if_neg (by decide), bd, b_on B.1.1, emk, bd, hmin, bd, l1, zI_add, zI_add]
              exact e3
            · rw [hg]
              show (if (1 : Int32) = 0 then _ else _) = _
              rw [if_neg (by decide)]
              unfold b_M_plan_171
              rw [if_neg (by decide)]
              unfold b_M_plan_185
              have A40 : (mj_up g 41 (aZ 42 u')).1 40 = aZ 42 (P 6) := by
                have := N2.2 6 (by omega) (by omega)
                rw [← q6]
                exact this
              have hm2 := s_M_min A40 W6 (i := i.toNat) (by rw [← hsame 4 (by decide) (by decide) (by decide)]; omega) hmod.1 cm
              rw [Int.toNat_of_nonneg ci.1] at hm2
              rw [if_neg (by decide), mg15 N2, bd, hdiv, hi, hrem, hmm, hm2, bd]
              unfold b_M_plan_216
              rw [l1, zI_add, zI_add, hv]
              exact e4
            · unfold fd upR
              by_cases c : j = 0
              · rw [if_pos c, if_pos c, if_neg (by decide), if_neg (by decide)]
                rfl
              · rw [if_neg c, if_neg c]
                by_cases c7 : j = 7
                · rw [if_pos c7, if_pos c7]
                · rw [if_neg c7, if_neg c7, if_neg c7]
        · obtain ⟨g', e1, c1, N1⟩ := stop g u Mu Z (Ch_0 _ _ g)
          refine ⟨if zI w = 0 then zI (k : Int) else zI mins, h, g', u, ?_, Ch_0 _ _ h, C, huM _ ?_, c1, N1, Z⟩
          · rw [huC]
            unfold b_C_planned_61
            simp only [hwi]
            rw [if_neg (by intro z; cases z), if_pos (fun z => cm z.2), endC]
          · rw [if_pos (by omega)]
            exact e1
    · obtain ⟨g', e1, c1, N1⟩ := stop g u Mu Z (Ch_0 _ _ g)
      refine ⟨if zI w = 0 then zI (k : Int) else zI mins, h, g', u, ?_, Ch_0 _ _ h, C, huM _ ?_, c1, N1, Z⟩
      · rw [huC, if_neg c0]
        unfold b_C_planned_61
        rw [if_pos rfl, endC]
      · rw [if_pos (by omega)]
        exact e1
end
