/-! ===== reach ===== -/
/-- the cells of the nodes that fulfil it, as a set -/
def orC (p : Nat → Bool) : Nat → Nat
  | 0 => 0
  | k + 1 => orC p k ||| (if p k = true then 2 ^ (k / 24) else 0)
theorem orC_bit (p : Nat → Bool) (j : Nat) : ∀ n, (orC p n).testBit j = true ↔ ∃ k, k < n ∧ p k = true ∧ k / 24 = j
  | 0 => by
    unfold orC
    simp
  | n + 1 => by
    have ih := orC_bit p j n
    unfold orC
    rw [Nat.testBit_or, Bool.or_eq_true, ih]
    constructor
    · rintro (⟨k, k1, k2, k3⟩ | z)
      · exact ⟨k, by omega, k2, k3⟩
      · by_cases c : p n = true
        · rw [if_pos c, Nat.testBit_two_pow, decide_eq_true_eq] at z
          exact ⟨n, by omega, c, z⟩
        · rw [if_neg c, Nat.zero_testBit] at z
          cases z
    · rintro ⟨k, k1, k2, k3⟩
      by_cases e : k = n
      · right
        subst e
        rw [if_pos k2, Nat.testBit_two_pow, decide_eq_true_eq]
        exact k3
      · exact Or.inl ⟨k, by omega, k2, k3⟩
theorem orC_eq {p q : Nat → Bool} (h : ∀ j, (∃ k, k < 576 ∧ p k = true ∧ k / 24 = j) ↔ ∃ k, k < 576 ∧ q k = true ∧ k / 24 = j) : orC p 576 = orC q 576 := by
  apply Nat.eq_of_testBit_eq
  intro j
  have e1 := orC_bit p j 576
  have e2 := orC_bit q j 576
  have : (orC p 576).testBit j = true ↔ (orC q 576).testBit j = true := e1.trans ((h j).trans e2.symm)
  cases h1 : (orC p 576).testBit j <;> cases h2 : (orC q 576).testBit j <;> simp [h1, h2] at this ⊢
theorem orC_lt (p : Nat → Bool) : ∀ n, n ≤ 576 → orC p n < 2 ^ 24
  | 0, _ => by unfold orC; decide
  | n + 1, hn => by
    have ih := orC_lt p n (by omega)
    unfold orC
    refine Nat.or_lt_two_pow ih ?_
    split
    · exact Nat.pow_lt_pow_right (by omega) (by omega)
    · decide
section
variable {F : Nat}
theorem s_cells4 {h : MH} {R : Nat → Nat → Int} (S : Sr h R) (G : Rg (R 2) (R 3)) : ∀ (d k fu : Nat), k + d = 576 → d < fu → b_S_cellsReached_4 F h fu (some 17) (nI (orC (fun s => decide (R 2 s ≠ 1000000)) k)) (zI (k : Int)) = some (nI (orC (fun s => decide (R 2 s ≠ 1000000)) 576)) := by
  intro d
  induction d with
  | zero =>
    intro k fu hk hf
    obtain ⟨fu, rfl⟩ : ∃ q, fu = q + 1 := ⟨fu - 1, by omega⟩
    unfold b_S_cellsReached_4
    simp (disch := omega) only [l576, zI_le]
    rw [if_pos (by omega), show k = 576 by omega]
  | succ d ih =>
    intro k fu hk hf
    obtain ⟨fu, rfl⟩ : ∃ q, fu = q + 1 := ⟨fu - 1, by omega⟩
    have g := G.1 k (by omega)
    have at2 : f_C_at (some 19) (zI (k : Int)) h = some (zI (R 2 k)) := by
      have := sr_at S 2 (c := 19) (k := (k : Int)) rfl (by omega) (by omega) (by omega) (show (k : Int) < (576 : Nat) by omega)
      rwa [Int.toNat_natCast] at this
    have x576 : (576 : Int32) ≤ zI (k : Int) ↔ 576 ≤ (k : Int) := zI_le (a := 576) (by omega) (by omega) (by omega) (by omega)
    have xf : zI (R 2 k) = (1000000 : Int32) ↔ R 2 k = 1000000 := zI_eq (b := 1000000) (by omega) (by omega) (by omega) (by omega)
    rw [← ih (k + 1) fu (by omega) (by omega)]
    conv => lhs; unfold b_S_cellsReached_4 b_S_cellsReached_33
    simp only [x576, sg1 S, at2, bd, xf]
    rw [if_neg (show ¬ 576 ≤ (k : Int) by omega), l1, zI_add, l24, zI_div (by omega) (by omega) (by omega) (by omega)]
    have hlt := orC_lt (fun s => decide (R 2 s ≠ 1000000)) k (by omega)
    have hc : orC (fun s => decide (R 2 s ≠ 1000000)) (k + 1) = orC (fun s => decide (R 2 s ≠ 1000000)) k ||| (if decide (R 2 k ≠ 1000000) = true then 2 ^ (k / 24) else 0) := rfl
    rw [hc]
    by_cases c : R 2 k = 1000000
    · rw [if_pos c, if_neg (by simpa using c), Nat.or_zero]; rfl
    · have h2 : 2 ^ (k / 24) < 2 ^ 24 := Nat.pow_lt_pow_right (by omega) (by omega)
      rw [if_neg c, if_pos (by simpa using c), ← nI_or (by omega) (by omega), ← oneN (by omega)]
      rw [show ((k : Int) / 24) = ((k / 24 : Nat) : Int) by omega]
      rfl
/-! the reference's way -/
def Jr (v : Nat → Int) (x : Int) (b : Nat → Int) : Prop := (∀ k : Nat, k < 576 → b k = 0 ∨ b k = 1) ∧ b x.toNat = 1 ∧ ∀ k : Nat, k < 576 → b k = 1 → ∃ n c, Pw v 0 n x c k
def RsU (b : Nat → Int) (mo : Int32) (b' : Nat → Int) (mo' : Int32) (C : Prop) : Prop := (b' = b ∧ mo' = mo ∧ C) ∨ (mo' = 1 ∧ sumN b 576 < sumN b' 576)
def Cu (v : Nat → Int) (b : Nat → Int) (k : Int) (i : Nat) (m : Int) : Prop := b k.toNat = 1 → ∀ k', eV v i m 0 k = some k' → b k'.toNat = 1
variable {v : Nat → Int} {K : Nat → Int} {x : Int} {st : Int32}
theorem q100 (W : Wv v) (hx : 0 ≤ x ∧ x < 576) (k58 : (Option Nat) → Int32 → Int32 → MH → (Option (Int32 × MH))) (k66 : (Option Nat) → Int32 → Int32 → Int32 → MH → (Option (Int32 × MH))) (k76 : (Option Nat) → Int32 → Int32 → Int32 → Int32 → MH → (Option (Int32 × MH)))
    {k : Nat} (hk : k < 576) {i : Nat} (hi : (i : Int) < v 4) : ∀ (d m fu : Nat) (g : MH) (b : Nat → Int) (mo : Int32), m + d = 8 → d < fu → g.1 34 = mO K → g.1 40 = aZ 42 v → g.1 46 = aZ 576 b → Jr v x b → b k = 1 → (mo = 0 ∨ mo = 1) →
      ∃ (b' : Nat → Int) (mo' : Int32), Jr v x b' ∧ b' k = 1 ∧ (mo' = 0 ∨ mo' = 1) ∧ RsU b mo b' mo' (∀ q : Nat, m ≤ q → q < 8 → Cu v b k i q) ∧
        b_M_reach_100 F k58 k66 k76 fu (some 34) st mo (zI k) (zI i) (zI m) g = k76 (some 34) st mo' (zI k) (zI ((i + 1 : Nat) : Int)) (mj_up g 46 (aZ 576 b')) := by
  intro d
  induction d with
  | zero =>
    intro m fu g b mo hd hf M A B J hb hm
    obtain ⟨fu, rfl⟩ : ∃ q, fu = q + 1 := ⟨fu - 1, by omega⟩
    refine ⟨b, mo, J, hb, hm, Or.inl ⟨rfl, rfl, fun q h1 h2 => by omega⟩, ?_⟩
    unfold b_M_reach_100
    simp (disch := omega) only [l8, l1, zI_le, zI_add]
    rw [if_pos (by omega), ← B, up_id]
    rfl
  | succ d ih =>
    intro m fu g b mo hd hf M A B J hb hm
    obtain ⟨fu, rfl⟩ : ∃ q, fu = q + 1 := ⟨fu - 1, by omega⟩
    obtain ⟨j1, j2, j3⟩ := id J
    have w4 := W.2.2.2.1
    have x8 : (8 : Int32) ≤ zI (m : Int) ↔ 8 ≤ (m : Int) := zI_le (a := 8) (by omega) (by omega) (by omega) (by omega)
    have e149 : ∀ (mo : Int32) (g : MH), b_M_reach_149 F k58 k66 k76 (b_M_reach_100 F k58 k66 k76 fu) (some 34) st mo (zI k) (zI i) (zI m) g = b_M_reach_100 F k58 k66 k76 fu (some 34) st mo (zI k) (zI i) (zI ((m + 1 : Nat) : Int)) g := by
      intro mo g
      unfold b_M_reach_149
      rw [l1, zI_add]
      rfl
    have same : Cu v b k i m → ∃ (b' : Nat → Int) (mo' : Int32), Jr v x b' ∧ b' k = 1 ∧ (mo' = 0 ∨ mo' = 1) ∧ RsU b mo b' mo' (∀ q : Nat, m ≤ q → q < 8 → Cu v b k i q) ∧
        b_M_reach_100 F k58 k66 k76 fu (some 34) st mo (zI k) (zI i) (zI ((m + 1 : Nat) : Int)) g = k76 (some 34) st mo' (zI k) (zI ((i + 1 : Nat) : Int)) (mj_up g 46 (aZ 576 b')) := by
      intro hc
      obtain ⟨b', mo', q1, q2, q3, q4, q5⟩ := ih (m + 1) fu g b mo (by omega) (by omega) M A B J hb hm
      refine ⟨b', mo', q1, q2, q3, ?_, q5⟩
      rcases q4 with ⟨a1, a2, a3⟩ | a
      · exact Or.inl ⟨a1, a2, fun q z1 z2 => by
          by_cases c : q = m
          · rw [c]; exact hc
          · exact a3 q (by omega) z2⟩
      · exact Or.inr a
    conv => enter [1, b', 1, mo', 2, 2, 2, 2, 1]; unfold b_M_reach_100
    simp only [x8]
    rw [if_neg (show ¬ 8 ≤ (m : Int) by omega), show gfr g (some 34) [11] 15 = some (some 40) from gfr_o M rfl rfl, bd, show (0 : Int32) = zI 0 from rfl, s_M_behind A W (by omega) hi (by omega) (by omega) (by omega) (by omega) (by omega) (by omega), bd]
    rw [show zI 0 = (0 : Int32) from rfl]
    cases he : eV v i m 0 k with
    | none =>
      unfold noV
      dsimp only
      rw [if_pos (show zI (-1000000) = -1000000 from rfl), e149]
      exact same (fun _ k' hk' => by rw [he] at hk'; cases hk')
    | some k' =>
      have hr := eV_r W (by omega) (by omega) he
      have hb' := j1 k'.toNat (by omega)
      have hne : ¬ (zI (noV (some k')) = -1000000) := by
        unfold noV
        simp (disch := omega) only [lN0, zI_eq]
        omega
      rw [if_neg hne]
      unfold noV
      dsimp only
      have gb : gfr g (some 34) [11] 23 = some (some 46) := m_best M
      have x0 : zI (b k'.toNat) = (0 : Int32) ↔ b k'.toNat = 0 := zI_eq (b := 0) (by omega) (by omega) (by omega) (by omega)
      rw [gb, bd, aldZ B hr.1 (by omega) (by omega), bd]
      simp only [x0]
      by_cases c0 : b k'.toNat = 0
      · rw [if_pos c0, bd, show (1 : Int32) = zI 1 from rfl, astZ B (by decide) hr.1 (by omega) (by omega), bd, e149]
        have hne2 : k ≠ k'.toNat := fun z => by rw [z] at hb; omega
        have hnx : x.toNat ≠ k'.toNat := fun z => by rw [z] at j2; omega
        obtain ⟨b', mo', q1, q2, q3, q4, q5⟩ := ih (m + 1) fu (mj_up g 46 (aZ 576 (upI b k'.toNat 1))) (upI b k'.toNat 1) 1 (by omega) (by omega) (by rw [up_get, if_neg (by decide)]; exact M) (by rw [up_get, if_neg (by decide)]; exact A) (by rw [up_get, if_pos rfl]) ⟨fun q hq => by
          by_cases e : q = k'.toNat
          · rw [e, upI_s]; exact Or.inr rfl
          · rw [upI_n _ _ e]; exact j1 q hq, by rw [upI_n _ _ hnx]; exact j2, fun q hq hq1 => by
          by_cases e : q = k'.toNat
          · obtain ⟨n, c, hp⟩ := j3 k hk hb
            refine ⟨n + 1, _, i, m, k, c, hi, by omega, by omega, hp, ?_, rfl⟩
            rw [he, e, Int.toNat_of_nonneg hr.1]
          · rw [upI_n _ _ e] at hq1
            exact j3 q hq hq1⟩ (by rw [upI_n _ _ hne2]; exact hb) (Or.inr rfl)
        refine ⟨b', mo', q1, q2, q3, ?_, by rw [show zI 1 = (1 : Int32) from rfl, q5, up_up]⟩
        have hs : sumN b 576 < sumN (upI b k'.toNat 1) 576 := by
          rw [sumN_up, if_pos (by omega)]
          omega
        rcases q4 with ⟨a1, a2, a3⟩ | ⟨a1, a2⟩
        · exact Or.inr ⟨a2, by rw [a1]; exact hs⟩
        · exact Or.inr ⟨a1, by omega⟩
      · rw [if_neg c0, e149]
        exact same (fun _ k2 hk2 => by rw [he] at hk2; cases hk2; omega)
theorem q76 (W : Wv v) (hF : 100 ≤ F) (hx : 0 ≤ x ∧ x < 576) (k58 : (Option Nat) → Int32 → Int32 → MH → (Option (Int32 × MH))) (k66 : (Option Nat) → Int32 → Int32 → Int32 → MH → (Option (Int32 × MH)))
    {k : Nat} (hk : k < 576) : ∀ (d i fu : Nat) (g : MH) (b : Nat → Int) (mo : Int32), (i : Int) + d = v 4 → d < fu → g.1 34 = mO K → g.1 40 = aZ 42 v → g.1 46 = aZ 576 b → Jr v x b → (mo = 0 ∨ mo = 1) →
      ∃ (b' : Nat → Int) (mo' : Int32), Jr v x b' ∧ (mo' = 0 ∨ mo' = 1) ∧ RsU b mo b' mo' (∀ p q : Nat, i ≤ p → (p : Int) < v 4 → q < 8 → Cu v b k p q) ∧
        b_M_reach_76 F k58 k66 fu (some 34) st mo (zI k) (zI i) g = k66 (some 34) st mo' (zI ((k + 1 : Nat) : Int)) (mj_up g 46 (aZ 576 b')) := by
  have w4 := W.2.2.2.1
  intro d
  induction d with
  | zero =>
    intro i fu g b mo hd hf M A B J hm
    obtain ⟨fu, rfl⟩ : ∃ q, fu = q + 1 := ⟨fu - 1, by omega⟩
    refine ⟨b, mo, J, hm, Or.inl ⟨rfl, rfl, fun p q h1 h2 h3 => by omega⟩, ?_⟩
    unfold b_M_reach_76 b_M_reach_161
    rw [show gfr g (some 34) [11] 15 = some (some 40) from gfr_o M rfl rfl, bd, aldL A 4 4 rfl (by decide) (by decide), bd]
    simp (disch := omega) only [l1, zI_le, zI_add]
    rw [if_pos (by omega), ← B, up_id]
    rfl
  | succ d ih =>
    intro i fu g b mo hd hf M A B J hm
    obtain ⟨fu, rfl⟩ : ∃ q, fu = q + 1 := ⟨fu - 1, by omega⟩
    have jk := J.1 k hk
    have xi : zI (v 4) ≤ zI (i : Int) ↔ v 4 ≤ (i : Int) := zI_le (by omega) (by omega) (by omega) (by omega)
    have x1 : zI (b k) = (1 : Int32) ↔ b k = 1 := zI_eq (b := 1) (by omega) (by omega) (by omega) (by omega)
    have hu : b_M_reach_76 F k58 k66 (fu + 1) (some 34) st mo (zI k) (zI i) g = if b k = 1 then b_M_reach_100 F k58 k66 (b_M_reach_76 F k58 k66 fu) F (some 34) st mo (zI k) (zI i) (zI ((0 : Nat) : Int)) g else k66 (some 34) st mo (zI ((k + 1 : Nat) : Int)) g := by
      conv => lhs; unfold b_M_reach_76 b_M_reach_161
      rw [show gfr g (some 34) [11] 15 = some (some 40) from gfr_o M rfl rfl, bd, aldL A 4 4 rfl (by decide) (by decide), bd]
      simp only [xi]
      rw [if_neg (by omega), m_best M, bd, aldN B hk (by omega), bd]
      simp only [x1]
      rw [l1, zI_add]
      rfl
    rw [hu]
    by_cases cb : b k = 1
    · rw [if_pos cb]
      obtain ⟨b1, mo1, q1, q1', q2, q3, q4⟩ := q100 (F := F) (st := st) W hx k58 k66 (b_M_reach_76 F k58 k66 fu) hk (show (i : Int) < v 4 by omega) 8 0 F g b mo rfl (by omega) M A B J cb hm
      rw [q4]
      obtain ⟨b2, mo2, r1, r2, r3, r4⟩ := ih (i + 1) fu (mj_up g 46 (aZ 576 b1)) b1 mo1 (by omega) (by omega) (by rw [up_get, if_neg (by decide)]; exact M) (by rw [up_get, if_neg (by decide)]; exact A) (by rw [up_get, if_pos rfl]) q1 q2
      refine ⟨b2, mo2, r1, r2, ?_, by rw [r4, up_up]⟩
      rcases q3 with ⟨a1, a2, a3⟩ | ⟨a1, a2⟩
      · subst a1
        subst a2
        rcases r3 with ⟨e1, e2, e3⟩ | e
        · exact Or.inl ⟨e1, e2, fun p q z1 z2 z3 => by
            by_cases c : p = i
            · subst c; exact a3 q (by omega) z3
            · exact e3 p q (by omega) z2 z3⟩
        · exact Or.inr e
      · rcases r3 with ⟨e1, e2, e3⟩ | ⟨e1, e2⟩
        · exact Or.inr ⟨e2.trans a1, by rw [e1]; exact a2⟩
        · exact Or.inr ⟨e1, by omega⟩
    · rw [if_neg cb]
      refine ⟨b, mo, J, hm, Or.inl ⟨rfl, rfl, fun p q z1 z2 z3 z4 => ?_⟩, by rw [← B, up_id]⟩
      rw [Int.toNat_natCast] at z4
      exact absurd z4 cb
theorem q66 (W : Wv v) (hF : 100 ≤ F) (hx : 0 ≤ x ∧ x < 576) (k58 : (Option Nat) → Int32 → Int32 → MH → (Option (Int32 × MH))) : ∀ (d k fu : Nat) (g : MH) (b : Nat → Int) (mo : Int32), k + d = 576 → d < fu → g.1 34 = mO K → g.1 40 = aZ 42 v → g.1 46 = aZ 576 b → Jr v x b → (mo = 0 ∨ mo = 1) →
      ∃ (b' : Nat → Int) (mo' : Int32), Jr v x b' ∧ (mo' = 0 ∨ mo' = 1) ∧ RsU b mo b' mo' (∀ j p q : Nat, k ≤ j → j < 576 → (p : Int) < v 4 → q < 8 → Cu v b j p q) ∧
        b_M_reach_66 F k58 fu (some 34) st mo (zI k) g = k58 (some 34) st mo' (mj_up g 46 (aZ 576 b')) := by
  have w4 := W.2.2.2.1
  intro d
  induction d with
  | zero =>
    intro k fu g b mo hd hf M A B J hm
    obtain ⟨fu, rfl⟩ : ∃ q, fu = q + 1 := ⟨fu - 1, by omega⟩
    refine ⟨b, mo, J, hm, Or.inl ⟨rfl, rfl, fun j p q h1 h2 h3 => by omega⟩, ?_⟩
    unfold b_M_reach_66
    simp (disch := omega) only [l576, zI_le]
    rw [if_pos (by omega), ← B, up_id]
  | succ d ih =>
    intro k fu g b mo hd hf M A B J hm
    obtain ⟨fu, rfl⟩ : ∃ q, fu = q + 1 := ⟨fu - 1, by omega⟩
    have hu : b_M_reach_66 F k58 (fu + 1) (some 34) st mo (zI k) g = b_M_reach_76 F k58 (b_M_reach_66 F k58 fu) F (some 34) st mo (zI k) (zI ((0 : Nat) : Int)) g := by
      conv => lhs; unfold b_M_reach_66
      simp (disch := omega) only [l576, zI_le]
      rw [if_neg (by omega)]
      rfl
    rw [hu]
    obtain ⟨b1, mo1, q1, q2, q3, q4⟩ := q76 (F := F) (st := st) W hF hx k58 (b_M_reach_66 F k58 fu) (show k < 576 by omega) (v 4).toNat 0 F g b mo (by omega) (by omega) M A B J hm
    rw [q4]
    obtain ⟨b2, mo2, r1, r2, r3, r4⟩ := ih (k + 1) fu (mj_up g 46 (aZ 576 b1)) b1 mo1 (by omega) (by omega) (by rw [up_get, if_neg (by decide)]; exact M) (by rw [up_get, if_neg (by decide)]; exact A) (by rw [up_get, if_pos rfl]) q1 q2
    refine ⟨b2, mo2, r1, r2, ?_, by rw [r4, up_up]⟩
    rcases q3 with ⟨a1, a2, a3⟩ | ⟨a1, a2⟩
    · subst a1
      subst a2
      rcases r3 with ⟨e1, e2, e3⟩ | e
      · exact Or.inl ⟨e1, e2, fun j p q z1 z2 z3 z4 => by
          by_cases c : j = k
          · subst c; exact a3 p q (by omega) z3 z4
          · exact e3 j p q (by omega) z2 z3 z4⟩
      · exact Or.inr e
    · rcases r3 with ⟨e1, e2, e3⟩ | ⟨e1, e2⟩
      · exact Or.inr ⟨e2.trans a1, by rw [e1]; exact a2⟩
      · exact Or.inr ⟨e1, by omega⟩
theorem q172 {g : MH} {b : Nat → Int} (M : g.1 34 = mO K) (B : g.1 46 = aZ 576 b) (hb : ∀ k : Nat, k < 576 → b k = 0 ∨ b k = 1) : ∀ (d k fu : Nat), k + d = 576 → d < fu → b_M_reach_172 F fu (some 34) (nI (orC (fun s => decide (b s = 1)) k)) (zI (k : Int)) g = some (nI (orC (fun s => decide (b s = 1)) 576), g) := by
  intro d
  induction d with
  | zero =>
    intro k fu hk hf
    obtain ⟨fu, rfl⟩ : ∃ q, fu = q + 1 := ⟨fu - 1, by omega⟩
    unfold b_M_reach_172
    simp (disch := omega) only [l576, zI_le]
    rw [if_pos (by omega), show k = 576 by omega]
  | succ d ih =>
    intro k fu hk hf
    obtain ⟨fu, rfl⟩ : ∃ q, fu = q + 1 := ⟨fu - 1, by omega⟩
    have jk := hb k (by omega)
    have x576 : (576 : Int32) ≤ zI (k : Int) ↔ 576 ≤ (k : Int) := zI_le (a := 576) (by omega) (by omega) (by omega) (by omega)
    have xf : zI (b k) = (1 : Int32) ↔ b k = 1 := zI_eq (b := 1) (by omega) (by omega) (by omega) (by omega)
    rw [← ih (k + 1) fu (by omega) (by omega)]
    conv => lhs; unfold b_M_reach_172 b_M_reach_200
    simp only [x576]
    rw [if_neg (show ¬ 576 ≤ (k : Int) by omega), m_best M, bd, aldN B (by omega) (by omega), bd]
    simp only [xf]
    rw [l24, zI_div (by omega) (by omega) (by omega) (by omega)]
    have hlt := orC_lt (fun s => decide (b s = 1)) k (by omega)
    have hc : orC (fun s => decide (b s = 1)) (k + 1) = orC (fun s => decide (b s = 1)) k ||| (if decide (b k = 1) = true then 2 ^ (k / 24) else 0) := rfl
    rw [hc]
    have hk1 : zI (k : Int) + (1 : Int32) = zI ((k + 1 : Nat) : Int) := by rw [l1, zI_add]; rfl
    by_cases c : b k = 1
    · have h2 : 2 ^ (k / 24) < 2 ^ 24 := Nat.pow_lt_pow_right (by omega) (by omega)
      rw [if_pos c, if_pos (by simpa using c), ← nI_or (by omega) (by omega), ← oneN (by omega), hk1]
      rw [show ((k : Int) / 24) = ((k / 24 : Nat) : Int) by omega]
    · rw [if_neg c, if_neg (by simpa using c), hk1, show (0 : Int32) = nI 0 from rfl, nI_or (by omega) (by decide)]
theorem q58 (W : Wv v) (hF : 1000 ≤ F) (hx : 0 ≤ x ∧ x < 576) : ∀ (N fu : Nat) (g : MH) (b : Nat → Int), 576 - sumN b 576 ≤ N → N + 2 < fu → g.1 34 = mO K → g.1 40 = aZ 42 v → g.1 46 = aZ 576 b → Jr v x b →
      ∃ (b' : Nat → Int), Jr v x b' ∧ (∀ j p q : Nat, j < 576 → (p : Int) < v 4 → q < 8 → Cu v b' j p q) ∧ b_M_reach_58 F fu (some 34) 0 1 g = some (nI (orC (fun s => decide (b' s = 1)) 576), mj_up g 46 (aZ 576 b')) := by
  intro N
  have fin : ∀ (fu : Nat) (g : MH) (b b1 : Nat → Int), g.1 34 = mO K → g.1 46 = aZ 576 b1 → Jr v x b1 → b_M_reach_58 F (fu + 1) (some 34) 0 0 g = some (nI (orC (fun s => decide (b1 s = 1)) 576), g) := by
    intro fu g b b1 M B J
    unfold b_M_reach_58
    rw [if_pos rfl]
    exact q172 (F := F) M B J.1 576 0 F rfl (by omega)
  induction N with
  | zero =>
    intro fu g b hS hf M A B J
    obtain ⟨fu, rfl⟩ : ∃ q, fu = q + 2 := ⟨fu - 2, by omega⟩
    have hu : b_M_reach_58 F (fu + 2) (some 34) 0 1 g = b_M_reach_66 F (b_M_reach_58 F (fu + 1)) F (some 34) 0 0 (zI ((0 : Nat) : Int)) g := by
      conv => lhs; unfold b_M_reach_58
      rw [if_neg (by decide)]
      rfl
    rw [hu]
    obtain ⟨b1, mo1, q1, q2, q3, q4⟩ := q66 (F := F) (st := 0) W (by omega) hx (b_M_reach_58 F (fu + 1)) 576 0 F g b 0 (by omega) (by omega) M A B J (Or.inl rfl)
    rw [q4]
    rcases q3 with ⟨a1, a2, a3⟩ | ⟨a1, a2⟩
    · subst a1
      subst a2
      refine ⟨b1, J, fun j p q z1 z2 z3 => a3 j p q (by omega) z1 z2 z3, ?_⟩
      exact fin fu _ b1 b1 (by rw [up_get, if_neg (by decide)]; exact M) (by rw [up_get, if_pos rfl]) J
    · have := (sumN_01 (f := b1) 576 q1.1).2
      omega
  | succ N ih =>
    intro fu g b hS hf M A B J
    obtain ⟨fu, rfl⟩ : ∃ q, fu = q + 2 := ⟨fu - 2, by omega⟩
    have hu : b_M_reach_58 F (fu + 2) (some 34) 0 1 g = b_M_reach_66 F (b_M_reach_58 F (fu + 1)) F (some 34) 0 0 (zI ((0 : Nat) : Int)) g := by
      conv => lhs; unfold b_M_reach_58
      rw [if_neg (by decide)]
      rfl
    rw [hu]
    obtain ⟨b1, mo1, q1, q2, q3, q4⟩ := q66 (F := F) (st := 0) W (by omega) hx (b_M_reach_58 F (fu + 1)) 576 0 F g b 0 (by omega) (by omega) M A B J (Or.inl rfl)
    rw [q4]
    rcases q3 with ⟨a1, a2, a3⟩ | ⟨a1, a2⟩
    · subst a1
      subst a2
      refine ⟨b1, J, fun j p q z1 z2 z3 => a3 j p q (by omega) z1 z2 z3, ?_⟩
      exact fin fu _ b1 b1 (by rw [up_get, if_neg (by decide)]; exact M) (by rw [up_get, if_pos rfl]) J
    · subst a1
      obtain ⟨b2, r1, r2, r3⟩ := ih (fu + 1) (mj_up g 46 (aZ 576 b1)) b1 (by omega) (by omega) (by rw [up_get, if_neg (by decide)]; exact M) (by rw [up_get, if_neg (by decide)]; exact A) (by rw [up_get, if_pos rfl]) q1
      exact ⟨b2, r1, r2, by rw [r3, up_up]⟩
end
