/-! ===== days ===== -/
def zL (a : Int) : Int64 := Int64.ofInt a
theorem zL_toInt {a : Int} (h1 : -9223372036854775808 ≤ a) (h2 : a < 9223372036854775808) : (zL a).toInt = a := by
  unfold zL
  exact Int64.toInt_ofInt_of_le (by omega) (by omega)
theorem zL_sub (a b : Int) : zL a - zL b = zL (a - b) := (Int64.ofInt_sub a b).symm
theorem zL_mul (a b : Int) : zL a * zL b = zL (a * b) := (Int64.ofInt_mul a b).symm
theorem zL_div {a b : Int} (h1 : 0 ≤ a) (h2 : a < 9223372036854775808) (h3 : 0 < b) (h4 : b < 9223372036854775808) : zL a / zL b = zL (a / b) := by
  apply Int64.toInt_inj.mp
  have hd : a / b ≤ a := Int.ediv_le_self _ h1
  have hd0 : 0 ≤ a / b := Int.ediv_nonneg h1 (by omega)
  rw [Int64.toInt_div, zL_toInt (by omega) h2, zL_toInt (by omega) h4, zL_toInt (by omega) (by omega), Int.tdiv_eq_ediv_of_nonneg h1]
  exact Int.bmod_eq_of_le (by omega) (by omega)
theorem zL_rem {a b : Int} (h1 : 0 ≤ a) (h2 : a < 9223372036854775808) (h3 : 0 < b) (h4 : b < 9223372036854775808) : mj_lrem (zL a) (zL b) = zL (a % b) := by
  unfold mj_lrem
  rw [zL_div h1 h2 h3 h4, zL_mul, zL_sub]
  congr 1
  have := Int.emod_def a b
  rw [this, Int.mul_comm]
theorem zL_32 (a : Int) : (zL a).toInt32 = zI a := Int64.toInt32_ofInt
theorem zI_64 {a : Int} (h1 : -2147483648 ≤ a) (h2 : a < 2147483648) : (zI a).toInt64 = zL a := by
  apply Int64.toInt_inj.mp
  rw [Int32.toInt_toInt64, zI_toInt h1 h2, zL_toInt (by omega) (by omega)]
def nxS (s : Int) : Int := s * 16807 % 2147483647
theorem nxS_r (s : Int) : 0 ≤ nxS s ∧ nxS s < 2147483647 := ⟨Int.emod_nonneg _ (by decide), Int.emod_lt_of_pos _ (by decide)⟩
theorem nxS_L {s : Int} (h1 : 0 ≤ s) (h2 : s < 2147483647) : mj_lrem (zL s * (16807 : Int64)) (2147483647 : Int64) = zL (nxS s) := by
  rw [show (16807 : Int64) = zL 16807 from rfl, zL_mul, show (2147483647 : Int64) = zL 2147483647 from rfl, zL_rem (by omega) (by omega) (by omega) (by omega)]
  rfl
section
variable {F : Nat} {P : Nat → Nat → Int}
theorem m_days0 {n w c : Int} (hn : 0 ≤ n ∧ n ≤ 60) (hw : 0 ≤ w ∧ w < 2) (W6 : Wv (P 6)) (h4 : P 6 4 = 0) {g : MH} {Q : Nat → Nat → Int} (M : Mr g Q) (q6 : Q 6 = P 6) : ∀ (d k fu : Nat) (s : Int64), (k : Int) + d = n → d < fu → b_M_days_70 F fu (some 34) (zI n) (zI w) s (zI c) (zI (k : Int)) g = some (if w = 0 then zI (10 * Q 7 14 + Q 7 15) else zI c, g) := by
  intro d
  induction d with
  | zero =>
    intro k fu s hk hf
    obtain ⟨fu, rfl⟩ : ∃ q, fu = q + 1 := ⟨fu - 1, by omega⟩
    have x1 : zI n ≤ zI (k : Int) ↔ n ≤ (k : Int) := zI_le (by omega) (by omega) (by omega) (by omega)
    have xw : zI w = (0 : Int32) ↔ w = 0 := zI_eq (b := 0) (by omega) (by omega) (by omega) (by omega)
    have A : g.1 41 = aZ 42 (Q 7) := M.2 7 (by omega) (by omega)
    unfold b_M_days_70
    simp only [x1, xw]
    rw [if_pos (by omega), mg16 M, bd, aldL A 14 14 rfl (by decide) (by decide), bd, bd, aldL A 15 15 rfl (by decide) (by decide), bd, l10, zI_mul, zI_add]
    by_cases cw : w = 0
    · rw [if_pos cw, if_pos cw]
    · rw [if_neg cw, if_neg cw]
  | succ d ih =>
    intro k fu s hk hf
    obtain ⟨fu, rfl⟩ : ∃ q, fu = q + 1 := ⟨fu - 1, by omega⟩
    have x1 : zI n ≤ zI (k : Int) ↔ n ≤ (k : Int) := zI_le (by omega) (by omega) (by omega) (by omega)
    have A : g.1 40 = aZ 42 (P 6) := by rw [← q6]; exact M.2 6 (by omega) (by omega)
    have x4 : zI (P 6 4) ≤ (0 : Int32) ↔ P 6 4 ≤ 0 := zI_le (b := 0) (by omega) (by omega) (by omega) (by omega)
    rw [← ih (k + 1) fu (mj_lrem (s * (16807 : Int64)) (2147483647 : Int64)) (by omega) (by omega)]
    conv => lhs; unfold b_M_days_70
    simp only [x1]
    rw [if_neg (by omega), mg15 M, bd, aldL A 4 4 rfl (by decide) (by decide), bd]
    simp only [x4]
    rw [if_pos (by omega)]
    unfold b_M_days_144 b_M_days_145
    rw [if_pos rfl]
    unfold b_M_days_159
    rw [l0, zI_add, l1, zI_add, Int.add_zero]
    rfl
theorem s_days70 {n w : Int} (hn : 0 ≤ n ∧ n ≤ 60) (hw : 0 ≤ w ∧ w < 2) (W6 : Wv (P 6)) (h4 : 0 < P 6 4) : ∀ (d k fuC fuM : Nat) (h g : MH) (Q : Nat → Nat → Int) (u : Nat → Int) (s c : Int), (k : Int) + d = n → d < fuC → d < fuM → Es h → CR h P → Bx h 29 u → Mr g Q → Q 7 = u → Q 6 = P 6 → Wv u → Wz u → u 17 ≤ 1000 + k → (∀ q, q ≠ 14 → q ≠ 15 → q ≠ 17 → u q = P 6 q) → 0 ≤ s ∧ s < 2147483647 →
    ∃ c' u' h' g', b_C_passDays_20 F fuC (some 3) (zI n) (zL s) (zI c) (zI (k : Int)) h = some (zI c', h') ∧ Ch 29 31 h h' ∧ CR h' P ∧ Bx h' 29 u' ∧ b_M_days_70 F fuM (some 34) (zI n) (zI w) (zL s) (zI c) (zI (k : Int)) g = some (if w = 0 then zI (10 * u' 14 + u' 15) else zI c', g') ∧ Ch 34 47 g g' ∧ Mr g' (upR Q 7 u') ∧ Wz u' := by
  intro d
  induction d with
  | zero =>
    intro k fuC fuM h g Q u s c hk hf hf2 E C B M q7 q6 W Z h17 hsame hs
    obtain ⟨fuC, rfl⟩ : ∃ q, fuC = q + 1 := ⟨fuC - 1, by omega⟩
    obtain ⟨fuM, rfl⟩ : ∃ q, fuM = q + 1 := ⟨fuM - 1, by omega⟩
    have x1 : zI n ≤ zI (k : Int) ↔ n ≤ (k : Int) := zI_le (by omega) (by omega) (by omega) (by omega)
    have xw : zI w = (0 : Int32) ↔ w = 0 := zI_eq (b := 0) (by omega) (by omega) (by omega) (by omega)
    have A : g.1 41 = aZ 42 u := by rw [← q7]; exact M.2 7 (by omega) (by omega)
    refine ⟨c, u, h, g, ?_, Ch_0 _ _ h, C, B, ?_, Ch_0 _ _ g, M.cg (fun j _ => ?_), Z⟩
    · unfold b_C_passDays_20
      simp only [x1]
      rw [if_pos (by omega)]
    · unfold b_M_days_70
      simp only [x1, xw]
      rw [if_pos (by omega), mg16 M, bd, aldL A 14 14 rfl (by decide) (by decide), bd, bd, aldL A 15 15 rfl (by decide) (by decide), bd, l10, zI_mul, zI_add]
      by_cases cw : w = 0
      · rw [if_pos cw, if_pos cw]
      · rw [if_neg cw, if_neg cw]
    · unfold upR
      by_cases c7 : j = 7
      · rw [if_pos c7, c7, q7]
      · rw [if_neg c7]
  | succ d ih =>
    intro k fuC fuM h g Q u s c hk hf hf2 E C B M q7 q6 W Z h17 hsame hs
    obtain ⟨fuC, rfl⟩ : ∃ q, fuC = q + 1 := ⟨fuC - 1, by omega⟩
    obtain ⟨fuM, rfl⟩ : ∃ q, fuM = q + 1 := ⟨fuM - 1, by omega⟩
    have w4 := W.2.2.2.1
    have u4 : u 4 = P 6 4 := hsame 4 (by decide) (by decide) (by decide)
    have hnx := nxS_r s
    have eL := nxS_L hs.1 hs.2
    obtain ⟨t, ht⟩ : ∃ t, t = nxS s := ⟨_, rfl⟩
    rw [← ht] at hnx eL
    have x1 : zI n ≤ zI (k : Int) ↔ n ≤ (k : Int) := zI_le (by omega) (by omega) (by omega) (by omega)
    have x4 : zI (u 4) ≤ (0 : Int32) ↔ u 4 ≤ 0 := zI_le (b := 0) (by omega) (by omega) (by omega) (by omega)
    have x4' : (1 : Int32) ≤ zI (u 4) ↔ 1 ≤ u 4 := zI_le (a := 1) (by omega) (by omega) (by omega) (by omega)
    have A0 : g.1 40 = aZ 42 (P 6) := by rw [← q6]; exact M.2 6 (by omega) (by omega)
    have A : g.1 41 = aZ 42 u := by rw [← q7]; exact M.2 7 (by omega) (by omega)
    have e64 : (zI (u 4)).toInt64 = zL (u 4) := zI_64 (by omega) (by omega)
    have enz : mj_nzl (zL (u 4)) = some () := by
      unfold mj_nzl
      rw [if_neg ?_]
      intro z
      have := congrArg Int64.toInt z
      rw [zL_toInt (by omega) (by omega)] at this
      rw [show (0 : Int64).toInt = 0 from rfl] at this
      omega
    have ei : (mj_lrem (zL t) (zL (u 4))).toInt32 = zI (t % u 4) := by rw [zL_rem (by omega) (by omega) (by omega) (by omega), zL_32]
    have em : (mj_lrem (zL t) (8 : Int64)).toInt32 = zI (t % 8) := by rw [show (8 : Int64) = zL 8 from rfl, zL_rem (by omega) (by omega) (by omega) (by omega), zL_32]
    have hir : 0 ≤ t % u 4 ∧ t % u 4 < u 4 := ⟨Int.emod_nonneg _ (by omega), Int.emod_lt_of_pos _ (by omega)⟩
    have hmr : 0 ≤ t % 8 ∧ t % 8 < 8 := by omega
    obtain ⟨i, hi⟩ : ∃ i, t % u 4 = i := ⟨_, rfl⟩
    obtain ⟨m, hmm⟩ : ∃ m, t % 8 = m := ⟨_, rfl⟩
    rw [hi] at ei hir
    rw [hmm] at em hmr
    rcases c_handG B.1 W (n := i) (by omega) (by omega) with ⟨ci, -⟩ | ⟨ci, p, eh, p2, p3⟩
    · exact absurd hir ci
    have hgo := s_M_goes A W (by omega) (i := i.toNat) (by omega) hmr.1 hmr.2 (less := 0) (by omega) (by omega)
    rw [Int.toNat_of_nonneg hir.1] at hgo
    have hcan := s_B_canMake E W B.1 (i := i.toNat) (by omega) p3 hmr.1 hmr.2
    have g8 : gfi h (some 29) [1] 8 = some (zI (u 4)) := (b_g B.1.1).2.2.2.2.2.2.2.2.1
    have huC : b_C_passDays_20 F (fuC + 1) (some 3) (zI n) (zL s) (zI c) (zI (k : Int)) h = if (if (goV u i.toNat m 0).isSome then (1 : Int32) else 0) = 0 then b_C_passDays_20 F fuC (some 3) (zI n) (zL t) (zI c) (zI ((k + 1 : Nat) : Int)) h else (Option.bind (f_B_make (some 29) (zI m) h) fun h25 => b_C_passDays_20 F fuC (some 3) (zI n) (zL t) (zI (c + 1)) (zI ((k + 1 : Nat) : Int)) h25) := by
      conv => lhs; unfold b_C_passDays_20
      simp only [x1, eL]
      rw [if_neg (by omega), cg5 C.1, bd, g8, bd]
      simp only [x4]
      rw [if_neg (by omega)]
      simp only [bd, g8, e64, enz, b_on B.1.1, ei, eh, em, hcan]
      rw [if_neg (by intro z; cases z)]
      unfold b_C_passDays_105
      rw [l1, zI_add, zI_add]
      rfl
    have e04 : ald g (some 40) 0 (4 : Int32) = some (zI (u 4)) := by rw [u4]; exact aldL A0 4 4 rfl (by decide) (by decide)
    have huM : b_M_days_70 F (fuM + 1) (some 34) (zI n) (zI w) (zL s) (zI c) (zI (k : Int)) g = (match goV u i.toNat m 0 with
        | some u' => b_M_days_70 F fuM (some 34) (zI n) (zI w) (zL t) (zI (c + 1)) (zI ((k + 1 : Nat) : Int)) (mj_up g 41 (aZ 42 u'))
        | none => b_M_days_70 F fuM (some 34) (zI n) (zI w) (zL t) (zI c) (zI ((k + 1 : Nat) : Int)) g) := by
      conv => lhs; unfold b_M_days_70
      simp only [x1, eL]
      rw [if_neg (by omega)]
      simp only [mg15 M, mg16 M, bd, e04, x4, x4']
      rw [if_neg (by omega), if_pos (by omega)]
      unfold b_M_days_123
      rw [e64, enz, bd, ei, em, show f_M_goes (some 41) (zI i) (zI m) (0 : Int32) g = _ from hgo, bd]
      cases hg : goV u i.toNat m 0 with
      | none =>
        dsimp only
        rw [if_pos rfl]
        unfold b_M_days_144 b_M_days_145
        rw [if_pos rfl]
        unfold b_M_days_159
        rw [l0, zI_add, l1, zI_add, Int.add_zero]
        rfl
      | some u' =>
        dsimp only
        rw [if_neg (by decide)]
        unfold b_M_days_145
        rw [if_neg (by decide)]
        unfold b_M_days_159
        rw [l1, zI_add, zI_add]
        rfl
    rw [huC, huM]
    cases hg : goV u i.toNat m 0 with
    | none =>
      rw [if_pos (by rfl)]
      exact ih (k + 1) fuC fuM h g Q u t c (by omega) (by omega) (by omega) E C B M q7 q6 W Z (by omega) hsame hnx
    | some u' =>
      obtain ⟨W', h17', hs'⟩ := goV_W W (by omega) hg
      obtain ⟨emk, B2⟩ := Bx_make E (by omega) W (by omega) B hmr.1 hmr.2 hg
      have Z' : Wz u' := fun q hq => by rw [hs' q (by omega) (by omega) (by omega)]; exact Z q hq
      have c29 : Ch 29 31 h (mj_up h 29 (bO u' 29)) := Ch_up h _ (by omega) (by omega)
      obtain ⟨q1, N2⟩ := mr_ar M 7 (c := 41) rfl (by omega) (by omega) u'
      have q1 : Ch 34 47 g (mj_up g 41 (aZ 42 u')) := q1
      have N2 : Mr (mj_up g 41 (aZ 42 u')) (upR Q 7 u') := N2
      obtain ⟨c', u2, h3, g3, e3, c3, C3, B3, e4, c4, N4, Z3⟩ := ih (k + 1) fuC fuM (mj_up h 29 (bO u' 29)) (mj_up g 41 (aZ 42 u')) (upR Q 7 u') u' t (c + 1) (by omega) (by omega) (by omega) (c29.es (by omega) E) (C.tr c29 B2) B2 N2 rfl q6 W' Z' (by omega) (fun q a1 a2 a3 => by rw [hs' q a1 a2 a3, hsame q a1 a2 a3]) hnx
      refine ⟨c', u2, h3, g3, ?_, c29.tr c3, C3, B3, e4, q1.tr c4, N4.cg (fun j _ => ?_), Z3⟩
      · rw [show (if (some u').isSome = true then (1 : Int32) else 0) = 1 from rfl, if_neg (by decide), emk, bd]
        exact e3
      · unfold upR
        by_cases c7 : j = 7
        · rw [if_pos c7, if_pos c7]
        · rw [if_neg c7, if_neg c7, if_neg c7]
end
theorem s_days {F : Nat} (hF : 10000 ≤ F) (i1 i2 i3 : Int32) : Ok (f_C_days F (some 3) i1 i2 i3) (f_M_days F (some 34) i1 i2 i3) := by
  intro h P X
  obtain ⟨n, n1, n2, rfl⟩ := i_ex i1
  obtain ⟨s, s1, s2, rfl⟩ := i_ex i2
  obtain ⟨w, w1, w2, rfl⟩ := i_ex i3
  obtain ⟨E, M, C, D, I⟩ := id X
  obtain ⟨⟨W, Z, K⟩, I2, I3, I4, I5, I6⟩ := id I
  have w4 := W.2.2.2.1
  have B := C.2.2.2.2.2.1
  have x0 : zI (P 6 0) = (0 : Int32) ↔ P 6 0 = 0 := zI_eq (b := 0) (by omega) (by omega) (by omega) (by omega)
  have xn0 : zI n < (0 : Int32) ↔ n < 0 := zI_lt (b := 0) (by omega) (by omega) (by omega) (by omega)
  have xn60 : (60 : Int32) < zI n ↔ 60 < n := zI_lt (a := 60) (by omega) (by omega) (by omega) (by omega)
  have xs1 : zI s < (1 : Int32) ↔ s < 1 := zI_lt (b := 1) (by omega) (by omega) (by omega) (by omega)
  have xs9 : (999999 : Int32) < zI s ↔ 999999 < s := zI_lt (a := 999999) (by omega) (by omega) (by omega) (by omega)
  have hw : f_C_within (zI w) (2 : Int32) = 0 ↔ ¬ (0 ≤ w ∧ w < 2) := s_within0 (b := 2) w1 w2 (by omega) (by omega)
  have hinn : f_M_in (zI n) (0 : Int32) (60 : Int32) = 0 ↔ ¬ (0 ≤ n ∧ n ≤ 60) := by
    rw [show f_M_in (zI n) (0 : Int32) (60 : Int32) = if 0 ≤ n ∧ n ≤ 60 then 1 else 0 from s_M_in (a := 0) (b := 60) n1 n2 (by omega) (by omega) (by omega) (by omega), ite_01]
  have hins : f_M_in (zI s) (1 : Int32) (999999 : Int32) = 0 ↔ ¬ (1 ≤ s ∧ s ≤ 999999) := by
    rw [show f_M_in (zI s) (1 : Int32) (999999 : Int32) = if 1 ≤ s ∧ s ≤ 999999 then 1 else 0 from s_M_in (a := 1) (b := 999999) s1 s2 (by omega) (by omega) (by omega) (by omega), ite_01]
  have hinw : f_M_in (zI w) (0 : Int32) (1 : Int32) = 0 ↔ ¬ (0 ≤ w ∧ w < 2) := by
    rw [show f_M_in (zI w) (0 : Int32) (1 : Int32) = if 0 ≤ w ∧ w ≤ 1 then 1 else 0 from s_M_in (a := 0) (b := 1) w1 w2 (by omega) (by omega) (by omega) (by omega), ite_01]
    omega
  by_cases cb : P 6 0 ≠ 0 ∧ (0 ≤ n ∧ n ≤ 60) ∧ (1 ≤ s ∧ s ≤ 999999) ∧ (0 ≤ w ∧ w < 2)
  · obtain ⟨c0, cn, cs, cw⟩ := cb
    obtain ⟨h1, e1, c1, k1, B1⟩ := s_become (F := F) (a := 29) (b := 26) (by omega) (by omega) (by omega) C.2.2.2.2.2.2.1 B Z (by omega)
    have C1 := C.tr c1 B1
    have K17 : P 6 17 ≤ 999 := K.1
    have e64 : (zI s).toInt64 = zL s := zI_64 (by omega) (by omega)
    have xw : zI w = (0 : Int32) ↔ w = 0 := zI_eq (b := 0) (by omega) (by omega) (by omega) (by omega)
    have pl : ∀ (g : MH), Mr g (upR (th P) 7 (P 6)) → ∃ c' u' h' g', b_C_passDays_20 F F (some 3) (zI n) (zL s) (zI 0) (zI ((0 : Nat) : Int)) h1 = some (zI c', h') ∧ Ch 29 31 h1 h' ∧ CR h' P ∧ Bx h' 29 u' ∧ b_M_days_70 F F (some 34) (zI n) (zI w) (zL s) (zI 0) (zI ((0 : Nat) : Int)) g = some (if w = 0 then zI (10 * u' 14 + u' 15) else zI c', g') ∧ Ch 34 47 g g' ∧ Mr g' (upR (upR (th P) 7 (P 6)) 7 u') ∧ Wz u' := by
      intro g N
      by_cases c4 : P 6 4 = 0
      · refine ⟨0, P 6, h1, g, ?_, Ch_0 _ _ h1, C1, B1, ?_, Ch_0 _ _ g, N.cg (fun j _ => ?_), Z⟩
        · obtain ⟨fu, hfu⟩ : ∃ q, F = q + 1 := ⟨F - 1, by omega⟩
          have x1 : zI n ≤ zI ((0 : Nat) : Int) ↔ n ≤ ((0 : Nat) : Int) := zI_le (by omega) (by omega) (by omega) (by omega)
          have x4 : zI (P 6 4) ≤ (0 : Int32) ↔ P 6 4 ≤ 0 := zI_le (b := 0) (by omega) (by omega) (by omega) (by omega)
          have g8 : gfi h1 (some 29) [1] 8 = some (zI (P 6 4)) := (b_g B1.1.1).2.2.2.2.2.2.2.2.1
          have : ∀ fu2, b_C_passDays_20 F (fu2 + 1) (some 3) (zI n) (zL s) (zI 0) (zI ((0 : Nat) : Int)) h1 = some (zI 0, h1) := by
            intro fu2
            unfold b_C_passDays_20
            simp only [x1]
            by_cases cc : n ≤ ((0 : Nat) : Int)
            · rw [if_pos cc]
            · rw [if_neg cc, cg5 C1.1, bd, g8, bd]
              simp only [x4]
              rw [if_pos (by omega)]
          have h2 := this fu
          rw [← hfu] at h2
          exact h2
        · exact m_days0 (F := F) (P := P) (c := 0) cn cw W c4 N rfl n.toNat 0 F (zL s) (by omega) (by omega)
        · unfold upR
          by_cases c7 : j = 7
          · rw [if_pos c7, if_pos c7]
          · rw [if_neg c7, if_neg c7]
      · exact s_days70 (F := F) (P := P) cn cw W (by omega) n.toNat 0 F F h1 g _ (P 6) s 0 (by omega) (by omega) (by omega) (c1.es (by omega) E) C1 B1 N rfl rfl W Z (by omega) (fun q _ _ _ => rfl) (by omega)
    obtain ⟨gX, eX, cX, NX⟩ := mr_pf (M.fr c1 (by omega)) 0 rfl 0
    obtain ⟨gY, eY, cY, NY⟩ := r_copies (F := F) (by omega) 6 7 (c := 40) (c' := 41) rfl rfl (by omega) (by omega) (by omega) NX Z I6
    obtain ⟨cc, u, h2, -, f1, f2, f3, f4, -⟩ := pl gY NY
    have hall : Ch 29 31 h h2 := c1.tr f2
    obtain ⟨g0, e0, b0, N0⟩ := mr_pf (M.fr hall (by omega)) 0 rfl 0
    obtain ⟨g1, e4, b1, N1⟩ := r_copies (F := F) (by omega) 6 7 (c := 40) (c' := 41) rfl rfl (by omega) (by omega) (by omega) N0 Z I6
    obtain ⟨cc', u', h2', g2, y1, y2, y3, y5, y4, b2, N2, Zf⟩ := pl g1 N1
    have exx : (zI cc, h2) = (zI cc', h2') := Option.some.inj (f1.symm.trans y1)
    have ex1 : zI cc = zI cc' := congrArg Prod.fst exx
    have ex2 : h2 = h2' := congrArg Prod.snd exx
    subst ex2
    obtain ⟨z0, z1, z2, z3, z4, -⟩ := b_g y5.1.1
    have A0 : g0.1 40 = aZ 42 (P 6) := N0.2 6 (by omega) (by omega)
    refine ⟨if w = 0 then zI (10 * u' 14 + u' 15) else zI cc', h2, g2, _, ?_, ?_, J.fin (hall.es (by omega) E) f3 (D.fr hall (by omega)) ?_ (b0.tr (b1.tr b2)) N2 ⟨⟨rfl, rfl, rfl, rfl, rfl, rfl, rfl, rfl, rfl⟩, rfl, rfl, rfl, rfl, rfl⟩, Gr_2 hall (b0.tr (b1.tr b2)) (by omega) (by omega)⟩
    · have ep : f_C_passDays F (some 3) (zI n) (zI s) h = some (zI cc', h2) := by
        unfold f_C_passDays
        rw [cg5 C.1, bd, cg4 C.1, bd, b_on C.2.2.2.2.2.2.1.choose_spec.choose_spec.choose_spec.1, e1, bd, e64]
        exact y1
      unfold f_C_days
      rw [cf8 C.1, bd]
      simp only [x0, xn0, xn60, xs1, xs9, hw]
      rw [if_neg c0, if_neg (by omega), if_neg (by omega), if_neg (by omega), if_neg (by omega), if_neg (show ¬ ¬ (0 ≤ w ∧ w < 2) from fun z => z cw), co_on C.1, ep, bd]
      simp only [xw]
      rw [cg5 f3.1, bd, z3, bd, bd, z4, bd, l10, zI_mul, zI_add]
      by_cases cw0 : w = 0
      · rw [if_pos cw0, if_pos cw0]
      · rw [if_neg cw0, if_neg cw0]
    · unfold f_M_days
      rw [show (Value.int (0 : Int32)) = Value.int (zI 0) from rfl, e0, bd, mg15 N0, bd, aldL A0 0 0 rfl (by decide) (by decide), bd]
      simp only [x0, hinn, hins, hinw]
      rw [if_neg c0, if_neg (show ¬ ¬ (0 ≤ n ∧ n ≤ 60) from fun z => z cn), if_neg (show ¬ ¬ (1 ≤ s ∧ s ≤ 999999) from fun z => z cs), if_neg (show ¬ ¬ (0 ≤ w ∧ w < 2) from fun z => z cw), bd, mg16 N0, bd, e4, bd, e64]
      exact y4
    · exact ⟨⟨W, Z, K⟩, I2, I3, I4, I5, Zf⟩
  · obtain ⟨g, e, c, X'⟩ := X.thr
    have M' := X'.2.1
    have A0 : g.1 40 = aZ 42 (P 6) := M'.2 6 (by omega) (by omega)
    refine ⟨if P 6 0 = 0 then -1000002 else -1000001, h, g, th P, ?_, ?_, X', Gr_eq c (by omega)⟩
    · unfold f_C_days
      rw [cf8 C.1, bd]
      simp only [x0, xn0, xn60, xs1, xs9, hw]
      by_cases c0 : P 6 0 = 0
      · rw [if_pos c0, if_pos c0]
      · rw [if_neg c0, if_neg c0]
        by_cases a1 : n < 0
        · rw [if_pos a1]
        · rw [if_neg a1]
          by_cases a2 : 60 < n
          · rw [if_pos a2]
          · rw [if_neg a2]
            by_cases a3 : s < 1
            · rw [if_pos a3]
            · rw [if_neg a3]
              by_cases a4 : 999999 < s
              · rw [if_pos a4]
              · rw [if_neg a4, if_pos (fun z => cb ⟨c0, ⟨by omega, by omega⟩, ⟨by omega, by omega⟩, z⟩)]
    · unfold f_M_days
      rw [e, bd, mg15 M', bd, aldL A0 0 0 rfl (by decide) (by decide), bd]
      simp only [x0, hinn, hins, hinw]
      by_cases c0 : P 6 0 = 0
      · rw [if_pos c0, if_pos c0]
      · rw [if_neg c0, if_neg c0]
        by_cases a1 : 0 ≤ n ∧ n ≤ 60
        · rw [if_neg (show ¬ ¬ (0 ≤ n ∧ n ≤ 60) from fun z => z a1)]
          by_cases a2 : 1 ≤ s ∧ s ≤ 999999
          · rw [if_neg (show ¬ ¬ (1 ≤ s ∧ s ≤ 999999) from fun z => z a2), if_pos (fun z => cb ⟨c0, a1, a2, z⟩)]
          · rw [if_pos a2]
        · rw [if_pos a1]
