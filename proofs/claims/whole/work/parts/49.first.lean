/-! ===== the reference's first move, and what it says of a basin ===== -/
/-- move m by hand i is the first of a shortest way -/
def Pf (v : Nat → Int) (b : Nat → Int) (i m : Nat) : Prop := ∃ k', eV v i m 0 (ndV v) = some k' ∧ 0 < b (ndV v).toNat ∧ b k'.toNat + vMin v i m = b (ndV v).toNat
/-- x is the least code of such a move, or NONE -/
def Fo (v : Nat → Int) (b : Nat → Int) (i0 : Nat) (x : Int) : Prop :=
  (x = -1000000 ∧ ∀ i m : Nat, i0 ≤ i → (i : Int) < v 4 → m < 8 → ¬ Pf v b i m) ∨ ∃ i m : Nat, i0 ≤ i ∧ (i : Int) < v 4 ∧ m < 8 ∧ Pf v b i m ∧ x = 10 * i + m ∧ ∀ j q : Nat, i0 ≤ j → (j : Int) < v 4 → q < 8 → Pf v b j q → x ≤ 10 * j + q
section
variable {v : Nat → Int} {F : Nat} {K : Nat → Int} {a : Nat} {g : MH} {b : Nat → Int}
theorem p17f (W : Wv v) (ha : 3 ≤ a) (M : g.1 34 = mO K) (A : g.1 a = aZ 42 v) (B : g.1 46 = aZ 576 b) (hb : ∀ k : Nat, k < 576 → 0 ≤ b k ∧ b k ≤ 100000000) (k7 : (Option Nat) → (Option Nat) → Int32 → Int32 → MH → (Option (Int32 × MH))) {i : Nat} (hi : (i : Int) < v 4) : ∀ (d m fu : Nat), m + d = 8 → d < fu →
    ((∃ q : Nat, m ≤ q ∧ q < 8 ∧ Pf v b i q ∧ (∀ r : Nat, m ≤ r → r < q → ¬ Pf v b i r) ∧ b_M_firstOf_17 F k7 fu (some 34) (some a) (zI (ndV v)) (zI i) (zI m) g = some (zI (10 * i + q), g)) ∨ ((∀ r : Nat, m ≤ r → r < 8 → ¬ Pf v b i r) ∧ b_M_firstOf_17 F k7 fu (some 34) (some a) (zI (ndV v)) (zI i) (zI m) g = k7 (some 34) (some a) (zI (ndV v)) (zI ((i + 1 : Nat) : Int)) g)) := by
  have hn := ndV_r W
  have w4 := W.2.2.2.1
  intro d
  induction d with
  | zero =>
    intro m fu hd hf
    obtain ⟨fu, rfl⟩ : ∃ q, fu = q + 1 := ⟨fu - 1, by omega⟩
    refine Or.inr ⟨fun r h1 h2 => by omega, ?_⟩
    unfold b_M_firstOf_17
    simp (disch := omega) only [l8, l1, zI_le, zI_add]
    rw [if_pos (by omega)]
    rfl
  | succ d ih =>
    intro m fu hd hf
    obtain ⟨fu, rfl⟩ : ∃ q, fu = q + 1 := ⟨fu - 1, by omega⟩
    have e83 : b_M_firstOf_83 F k7 (b_M_firstOf_17 F k7 fu) (some 34) (some a) (zI (ndV v)) (zI i) (zI m) g = b_M_firstOf_17 F k7 fu (some 34) (some a) (zI (ndV v)) (zI i) (zI ((m + 1 : Nat) : Int)) g := by
      unfold b_M_firstOf_83
      rw [l1, zI_add]
      rfl
    have next : ¬ Pf v b i m → ((∃ q : Nat, m ≤ q ∧ q < 8 ∧ Pf v b i q ∧ (∀ r : Nat, m ≤ r → r < q → ¬ Pf v b i r) ∧ b_M_firstOf_17 F k7 fu (some 34) (some a) (zI (ndV v)) (zI i) (zI ((m + 1 : Nat) : Int)) g = some (zI (10 * i + q), g)) ∨ ((∀ r : Nat, m ≤ r → r < 8 → ¬ Pf v b i r) ∧ b_M_firstOf_17 F k7 fu (some 34) (some a) (zI (ndV v)) (zI i) (zI ((m + 1 : Nat) : Int)) g = k7 (some 34) (some a) (zI (ndV v)) (zI ((i + 1 : Nat) : Int)) g)) := by
      intro hP
      rcases ih (m + 1) fu (by omega) (by omega) with ⟨q, q1, q2, q3, q4, q5⟩ | ⟨q1, q2⟩
      · refine Or.inl ⟨q, by omega, q2, q3, fun r z1 z2 => ?_, q5⟩
        by_cases e : r = m
        · rw [e]; exact hP
        · exact q4 r (by omega) z2
      · refine Or.inr ⟨fun r z1 z2 => ?_, q2⟩
        by_cases e : r = m
        · rw [e]; exact hP
        · exact q1 r (by omega) z2
    have x8 : (8 : Int32) ≤ zI (m : Int) ↔ 8 ≤ (m : Int) := zI_le (a := 8) (by omega) (by omega) (by omega) (by omega)
    unfold b_M_firstOf_17
    simp only [x8]
    rw [if_neg (show ¬ 8 ≤ (m : Int) by omega), l0, s_M_behind A W ha hi (by omega) (by omega) (by omega) (by omega) hn.1 hn.2]
    simp only [bd]
    cases he : eV v i m 0 (ndV v) with
    | none =>
      unfold noV
      dsimp only
      rw [if_pos (show zI (-1000000) = -1000000 from rfl), e83]
      exact next (fun z => by obtain ⟨k', z1, -⟩ := z; rw [he] at z1; cases z1)
    | some k' =>
      have hr := eV_r W hn.1 hn.2 he
      have hb1 := hb k'.toNat (by omega)
      have hb2 := hb (ndV v).toNat (by omega)
      have hmi := vMin_r W hi m
      have hne : ¬ (zI (noV (some k')) = -1000000) := by
        unfold noV
        simp (disch := omega) only [lN0, zI_eq]
        omega
      rw [if_neg hne]
      unfold noV
      dsimp only
      simp only [m_best M, bd]
      rw [aldZ B hn.1 (by omega) (by omega), aldZ B hr.1 (by omega) (by omega), s_M_min A W hi (by omega) (by omega)]
      simp only [bd]
      rw [l10, zI_add, zI_mul, zI_add]
      simp (disch := omega) only [zI_le, zI_eq]
      by_cases c0 : b (ndV v).toNat ≤ 0
      · rw [if_pos c0, e83]
        exact next (fun z => by obtain ⟨k2, z1, z2, -⟩ := z; omega)
      · rw [if_neg c0]
        by_cases c1 : b k'.toNat + vMin v i m = b (ndV v).toNat
        · rw [if_pos c1]
          exact Or.inl ⟨m, Nat.le_refl _, by omega, ⟨k', he, by omega, c1⟩, fun r z1 z2 => by omega, rfl⟩
        · rw [if_neg c1, e83]
          exact next (fun z => by
            obtain ⟨k2, z1, z2, z3⟩ := z
            rw [he] at z1
            cases z1
            exact c1 z3)
theorem p7f (W : Wv v) (hF : 100 ≤ F) (ha : 3 ≤ a) (M : g.1 34 = mO K) (A : g.1 a = aZ 42 v) (B : g.1 46 = aZ 576 b) (hb : ∀ k : Nat, k < 576 → 0 ≤ b k ∧ b k ≤ 100000000) : ∀ (d i fu : Nat), ((i : Int) + d = v 4) → d < fu →
    ∃ x, Fo v b i x ∧ b_M_firstOf_7 F fu (some 34) (some a) (zI (ndV v)) (zI i) g = some (zI x, g) := by
  have w4 := W.2.2.2.1
  intro d
  induction d with
  | zero =>
    intro i fu hd hf
    obtain ⟨fu, rfl⟩ : ∃ q, fu = q + 1 := ⟨fu - 1, by omega⟩
    refine ⟨-1000000, Or.inl ⟨rfl, fun j m h1 h2 => by omega⟩, ?_⟩
    unfold b_M_firstOf_7
    rw [l4, aldZ A (k := 4) (by omega) (by omega) (by omega)]
    simp only [bd]
    rw [show v (4 : Int).toNat = v 4 from rfl]
    simp (disch := omega) only [zI_le]
    rw [if_pos (by omega)]
    rfl
  | succ d ih =>
    intro i fu hd hf
    obtain ⟨fu, rfl⟩ : ∃ q, fu = q + 1 := ⟨fu - 1, by omega⟩
    unfold b_M_firstOf_7
    rw [l4, aldZ A (k := 4) (by omega) (by omega) (by omega)]
    simp only [bd]
    rw [show v (4 : Int).toNat = v 4 from rfl]
    simp (disch := omega) only [zI_le]
    rw [if_neg (by omega), l0, show zI 0 = zI ((0 : Nat) : Int) from rfl]
    rcases p17f (F := F) W ha M A B hb (b_M_firstOf_7 F fu) (i := i) (by omega) 8 0 F rfl (by omega) with ⟨q, q1, q2, q3, q4, q5⟩ | ⟨q1, q2⟩
    · refine ⟨10 * i + q, Or.inr ⟨i, q, Nat.le_refl _, by omega, q2, q3, rfl, fun j r z1 z2 z3 z4 => ?_⟩, q5⟩
      by_cases e : j = i
      · subst e
        by_cases e2 : r < q
        · exact absurd z4 (q4 r (by omega) e2)
        · omega
      · omega
    · obtain ⟨x, r1, r2⟩ := ih (i + 1) fu (by omega) (by omega)
      refine ⟨x, ?_, by rw [q2, r2]⟩
      rcases r1 with ⟨e1, e2⟩ | ⟨j, r, e1, e2, e3, e4, e5, e6⟩
      · refine Or.inl ⟨e1, fun j r z1 z2 z3 => ?_⟩
        by_cases e : j = i
        · rw [e]; exact q1 r (by omega) z3
        · exact e2 j r (by omega) z2 z3
      · refine Or.inr ⟨j, r, by omega, e2, e3, e4, e5, fun j2 r2 z1 z2 z3 z4 => ?_⟩
        by_cases e : j2 = i
        · rw [e] at z4; exact absurd z4 (q1 r2 (by omega) z3)
        · exact e6 j2 r2 (by omega) z2 z3 z4
theorem s_M_firstOf (W : Wv v) (hF : 100 ≤ F) (ha : 3 ≤ a) (M : g.1 34 = mO K) (A : g.1 a = aZ 42 v) (B : g.1 46 = aZ 576 b) (hb : ∀ k : Nat, k < 576 → 0 ≤ b k ∧ b k ≤ 100000000) : ∃ x, Fo v b 0 x ∧ f_M_firstOf F (some 34) (some a) g = some (zI x, g) := by
  have w4 := W.2.2.2.1
  obtain ⟨x, q1, q2⟩ := p7f (F := F) W hF ha M A B hb (v 4).toNat 0 F (by omega) (by omega)
  refine ⟨x, q1, ?_⟩
  unfold f_M_firstOf
  rw [s_M_node A W]
  simp only [bd]
  exact q2
theorem s_M_turnedOf (W : Wv v) (hF : 1000000000000 ≤ F) {less : Int} (hl1 : 0 ≤ less) (hl2 : less ≤ 100) (ha : 3 ≤ a) (ha6 : a ≠ 46) (ha4 : a ≠ 34) (M : g.1 34 = mO K) (A : g.1 a = aZ 42 v) (B : g.1 46 = aZ 576 b) :
    ∃ (b' : Nat → Int), Jb v less (Tg (-1000000) ((v 15 + 4) % 8)) b' ∧ ClA v less b' ∧ f_M_turnedOf F (some 34) (some a) (zI less) g = some (zI (if b' (ndV v).toNat = 100000000 then -1000000 else b' (ndV v).toNat), mj_up g 46 (aZ 576 b')) := by
  have w15 := W.2.2.2.2.2.2.2.1
  obtain ⟨b1, q1, q2, q3⟩ := s_M_solves (F := F) (K := K) W hF hl1 hl2 ha ha6 ha4 (cell := -1000000) (turn := (v 15 + 4) % 8) (Or.inl rfl) (by omega) M A B
  refine ⟨b1, q1, q2, ?_⟩
  have a7 : ∀ a : Int, 0 ≤ a → a < 16 → zI a &&& zI 7 = zI (a % 8) := zI_and7
  unfold f_M_turnedOf
  rw [l15, aldZ A (k := 15) (by omega) (by omega) (by omega)]
  simp only [bd, m_on M]
  rw [show v (15 : Int).toNat = v 15 from rfl, l4, zI_add, l7, a7 _ (by omega) (by omega), lN0, q3]
  rfl
/-- the reference's draughts and hands -/
theorem s_M_draught (W : Wv v) (A : g.1 a = aZ 42 v) {less : Int} (h1 : 0 ≤ less) (h2 : less ≤ 100) : f_M_draughtOf (some a) (zI less) g = some (zI (vD v less)) := by
  rw [s_M_draughtOf A, rDraught_Z W h1 h2]
theorem m_s (M : g.1 34 = mO K) : gfr g (some 34) [11] 15 = some (some 40) ∧ gfr g (some 34) [11] 16 = some (some 41) := ⟨gfr_o M rfl rfl, gfr_o M rfl rfl⟩
theorem s_M_isHand (W : Wv v) (M : g.1 34 = mO K) (A : g.1 40 = aZ 42 v) {n : Int} (h1 : -2147483648 ≤ n) (h2 : n < 2147483648) : f_M_isHand (some 34) (zI n) g = some (if 0 ≤ n ∧ n < v 4 then 1 else 0) := by
  have w4 := W.2.2.2.1
  unfold f_M_isHand
  rw [(m_s M).1, l4]
  simp only [bd]
  rw [aldZ A (k := 4) (by omega) (by omega) (by omega), show v (4 : Int).toNat = v 4 from rfl]
  simp only [bd]
  rw [l0, l1, zI_sub, s_M_in h1 h2 (by omega) (by omega) (by omega) (by omega)]
  congr 1
  by_cases c : 0 ≤ n ∧ n < v 4
  · rw [if_pos c, if_pos (by omega)]; rfl
  · rw [if_neg c, if_neg (by omega)]; rfl
theorem s_M_fitsNow (W : Wv v) (M : g.1 34 = mO K) (A : g.1 40 = aZ 42 v) : f_M_fitsNow (some 34) g = some (b2 (vFits v (v 14 % 6) (v 14 / 6) (v 15) (vD v 0))) := by
  have w14 := W.2.2.2.2.2.2.1
  have w15 := W.2.2.2.2.2.2.2.1
  have hd := vD_r W (less := 0) (by omega)
  unfold f_M_fitsNow
  rw [l14, l15]
  simp only [(m_s M).1, bd]
  rw [aldZ A (k := 14) (by omega) (by omega) (by omega), aldZ A (k := 15) (by omega) (by omega) (by omega), l0, s_M_draught W A (by omega) (by omega)]
  simp only [bd]
  rw [show v (14 : Int).toNat = v 14 from rfl, show v (15 : Int).toNat = v 15 from rfl, l6, zI_rem (a := v 14) (by omega) (by omega) (by omega) (by omega), zI_div (a := v 14) (by omega) (by omega) (by omega) (by omega), s_M_fits A (by omega) (by omega) (by omega) (by omega) w15.1 (by omega), rFits_Z W (by omega) (by omega)]
  simp only [bd]
  cases vFits v (v 14 % 6) (v 14 / 6) (v 15) (vD v 0) <;> rfl
end
