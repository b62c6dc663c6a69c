/-! ===== calls that only look ===== -/
theorem aldL {h : MH} {a n : Nat} {f : Nat → Int} (H : h.1 a = aZ n f) (i : Int32) (k : Nat) (hi : i = zI (k : Int)) (h2 : k < n) (h3 : n < 2147483648) : ald h (some a) 0 i = some (zI (f k)) := ald_n H i k hi h2 h3
theorem s_trace (i : Int32) : Okr (f_C_trace (some 3) i) (f_M_trace (some 34) i) := by
  intro h P X
  obtain ⟨k, k1, k2, rfl⟩ := i_ex i
  obtain ⟨g, e, c, X'⟩ := X.thr
  have M := X'.2.1
  obtain ⟨-, -, ⟨x1, -, -, -, -, -, -, -, ⟨tc, t1, t2, t3, t4⟩⟩, -⟩ := X
  have t3 : 0 ≤ P 0 22 ∧ P 0 22 ≤ 16 := t3
  have a0 : f_C_at (some 33) (0 : Int32) h = some (zI (P 0 22)) := by
    have := s_at_in t1 (i := 0) (by omega) (by omega) (by omega)
    rw [← t2]
    exact this
  have A : g.1 45 = aZ 16 (P 11) := M.2 11 (by omega) (by omega)
  refine ⟨zI (if 0 ≤ k ∧ k < P 0 22 then P 11 k.toNat else -1000000), g, th P, ?_, ?_, X', Gr_eq c (by omega)⟩
  · unfold f_C_trace
    simp only [cg7 x1, bd, a0]
    by_cases c1 : 0 ≤ k ∧ k < P 0 22
    · rw [if_neg (fun z => (s_within0 k1 k2 (by omega) (by omega)).mp z c1), l1, zI_add, s_at_in t1 (by omega) (by omega) (by omega), bd, if_pos c1, show (k + 1).toNat = k.toNat + 1 by omega, t4 k.toNat (by omega)]
    · rw [if_pos ((s_within0 k1 k2 (by omega) (by omega)).mpr c1), if_neg c1]
      rfl
  · have hf : gfi g (some 34) [11] 22 = some (zI (P 0 22)) := mf22 (P := th P) M
    unfold f_M_trace
    rw [e, bd, hf, bd, mg21 M, l1, zI_sub, l0, s_M_in k1 k2 (by omega) (by omega) (by omega) (by omega)]
    simp only [bd]
    by_cases c1 : 0 ≤ k ∧ k < P 0 22
    · rw [if_pos (show 0 ≤ k ∧ k ≤ P 0 22 - 1 by omega), if_neg (show ¬ (1 : Int32) = zI 0 by decide), aldZ A c1.1 (by omega) (by omega), bd, if_pos c1]
    · rw [if_neg (show ¬ (0 ≤ k ∧ k ≤ P 0 22 - 1) by omega), if_pos (show (0 : Int32) = zI 0 from rfl), if_neg c1]
      rfl
def cntR (la : Nat → Int) : Nat → Int
  | 0 => 0
  | n + 1 => cntR la n + (if 0 < la n then 1 else 0)
theorem cntR_r (la : Nat → Int) : ∀ n, 0 ≤ cntR la n ∧ cntR la n ≤ n
  | 0 => by unfold cntR; omega
  | n + 1 => by
    have := cntR_r la n
    unfold cntR
    split <;> omega
section
variable {h : MH} {la le it : Nat → Int}
theorem rw_on (X : RO h la le it) {α : Type} (x : Option α) : onc h (some 4) 5 x = x := by
  obtain ⟨la', le', it', x1, -⟩ := X
  exact onc_o x1
theorem s_isMissing (X : RO h la le it) {r : Int} (r1 : -2147483648 ≤ r) (r2 : r < 2147483648) : f_Rw_isMissing (some 4) (zI r) h = some (if 0 ≤ r ∧ r < 8 ∧ la r.toNat ≠ 0 then 0 else 1) := by
  obtain ⟨la', le', it', x1, x2, x3, x4, x5⟩ := X
  unfold f_Rw_isMissing f_C_isRow
  have hw : f_C_within (zI r) (8 : Int32) = 0 ↔ ¬ (0 ≤ r ∧ r < 8) := s_within0 (b := 8) r1 r2 (by omega) (by omega)
  simp only [hw]
  by_cases c : 0 ≤ r ∧ r < 8
  · obtain ⟨y1, y2, -⟩ := x5 r.toNat (by omega)
    rw [if_neg (fun z => z c), gfr_o x1 (k := 1) (b := 6) rfl rfl, bd, s_at_in x3 c.1 (by omega) (by omega), bd]
    simp (disch := omega) only [lm1, zI_eq]
    by_cases c2 : la' r.toNat = -1
    · rw [if_pos c2, if_neg (by omega)]
    · rw [if_neg c2, if_pos (by omega)]
  · rw [if_pos c, if_neg (by omega)]
theorem s_present4 {F : Nat} (X : RO h la le it) : ∀ (d k fu : Nat), k + d = 8 → d < fu → b_Rw_present_4 F h fu (some 4) (zI (cntR la k)) (zI k) = some (zI (cntR la 8)) := by
  intro d
  induction d with
  | zero =>
    intro k fu hk hf
    obtain ⟨fu, rfl⟩ : ∃ q, fu = q + 1 := ⟨fu - 1, by omega⟩
    unfold b_Rw_present_4
    simp (disch := omega) only [l8, zI_le]
    rw [if_pos (by omega), show k = 8 by omega]
  | succ d ih =>
    intro k fu hk hf
    obtain ⟨fu, rfl⟩ : ∃ q, fu = q + 1 := ⟨fu - 1, by omega⟩
    have hm := s_isMissing X (r := (k : Int)) (by omega) (by omega)
    rw [Int.toNat_natCast] at hm
    unfold b_Rw_present_4 b_Rw_present_24
    simp (disch := omega) only [l8, zI_le]
    rw [if_neg (by omega), rw_on X, hm, bd]
    have := ih (k + 1) fu (by omega) (by omega)
    obtain ⟨la', le', it', x1, x2, x3, x4, x5⟩ := X
    obtain ⟨y1, y2, -⟩ := x5 k (by omega)
    have hc : cntR la (k + 1) = cntR la k + (if 0 < la k then 1 else 0) := rfl
    rw [hc] at this
    by_cases c : 0 < la k
    · rw [if_pos (⟨by omega, by omega, by omega⟩ : 0 ≤ (k : Int) ∧ (k : Int) < 8 ∧ la k ≠ 0), if_pos rfl, l1, zI_add, zI_add]
      rw [if_pos c] at this
      exact this
    · rw [if_neg (show ¬ (0 ≤ (k : Int) ∧ (k : Int) < 8 ∧ la k ≠ 0) by omega), if_neg (by decide), l1, l0, zI_add, zI_add]
      rw [if_neg c] at this
      exact this
end
theorem m_count22 {F : Nat} {g : MH} {P : Nat → Nat → Int} (M : Mr g P) (hla : ∀ r : Nat, r < 8 → 0 ≤ P 2 r ∧ P 2 r ≤ 3) {w : Int} (w1 : 0 ≤ w) (w2 : w ≤ 6) : ∀ (d k fu : Nat), k + d = 8 → d < fu → b_M_count_22 F fu (some 34) (zI w) (zI (cntR (P 2) k)) (zI k) g = some (zI (if w = 0 then cntR (P 2) 8 else if w = 1 then P 6 4 else if w = 2 then P 6 1 else if w = 3 then P 6 3 else if w = 4 then P 6 13 else if w = 5 then P 0 18 else P 0 2), g) := by
  have A6 : g.1 40 = aZ 42 (P 6) := M.2 6 (by omega) (by omega)
  have A2 : g.1 36 = aZ 8 (P 2) := M.2 2 (by omega) (by omega)
  intro d
  induction d with
  | zero =>
    intro k fu hk hf
    obtain ⟨fu, rfl⟩ : ∃ q, fu = q + 1 := ⟨fu - 1, by omega⟩
    have e1 := aldL A6 1 1 rfl (by decide) (by decide)
    have e3 := aldL A6 3 3 rfl (by decide) (by decide)
    have e4 := aldL A6 4 4 rfl (by decide) (by decide)
    have e13 := aldL A6 13 13 rfl (by decide) (by decide)
    conv => lhs; unfold b_M_count_22
    simp only [mg15 M, e1, e3, e4, e13, mf18 M, mf2 M, bd]
    rw [show (8 : Int32) = zI 8 from rfl, show (3 : Int32) = zI 3 from rfl, show (4 : Int32) = zI 4 from rfl, show (5 : Int32) = zI 5 from rfl, show (1 : Int32) = zI 1 from rfl, show (0 : Int32) = zI 0 from rfl]
    simp (disch := omega) only [zI_le, zI_eq]
    rw [if_pos (by omega), show k = 8 by omega]
    rcases (show w = 0 ∨ w = 1 ∨ w = 2 ∨ w = 3 ∨ w = 4 ∨ w = 5 ∨ w = 6 by omega) with rfl | rfl | rfl | rfl | rfl | rfl | rfl <;> rfl
  | succ d ih =>
    intro k fu hk hf
    obtain ⟨fu, rfl⟩ : ∃ q, fu = q + 1 := ⟨fu - 1, by omega⟩
    have hl := hla k (by omega)
    have e2 := aldN A2 (k := k) (by omega) (by omega)
    have x8 : (8 : Int32) ≤ zI (k : Int) ↔ 8 ≤ (k : Int) := zI_le (a := 8) (by omega) (by omega) (by omega) (by omega)
    have x0 : zI (P 2 k) ≤ (0 : Int32) ↔ P 2 k ≤ 0 := zI_le (b := 0) (by omega) (by omega) (by omega) (by omega)
    rw [← ih (k + 1) fu (by omega) (by omega)]
    conv => lhs; unfold b_M_count_22 b_M_count_43
    simp only [mg10 M, e2, bd, x8, x0]
    rw [if_neg (show ¬ 8 ≤ (k : Int) by omega), l1, zI_add, l0, zI_add, zI_add]
    have hc : cntR (P 2) (k + 1) = cntR (P 2) k + (if 0 < P 2 k then 1 else 0) := rfl
    rw [hc]
    by_cases c : 0 < P 2 k
    · rw [if_neg (by omega), if_pos c]; rfl
    · rw [if_pos (by omega), if_neg c]; rfl
theorem s_count {F : Nat} (hF : 100 ≤ F) (w : Int32) : Okr (f_C_count F (some 3) w) (f_M_count F (some 34) w) := by
  intro h P X
  obtain ⟨k, k1, k2, rfl⟩ := i_ex w
  obtain ⟨g, e, c, X'⟩ := X.thr
  have M := X'.2.1
  obtain ⟨-, -, ⟨x1, x2, x3, x4, x5, x6, -⟩, -⟩ := X
  obtain ⟨g0, g1, g2, g3, g4, g5, g6, g7, g8, g9, g10⟩ := b_g x6.1.1
  have hla : ∀ r : Nat, r < 8 → 0 ≤ P 2 r ∧ P 2 r ≤ 3 := by
    obtain ⟨la', le', it', -, -, -, -, y⟩ := x2
    intro r hr
    have := y r hr
    omega
  have h0 : f_Rw_present F (some 4) h = some (zI (cntR (P 2) 8)) := s_present4 (F := F) x2 8 0 F rfl (by omega)
  refine ⟨zI (if 0 ≤ k ∧ k ≤ 6 then (if k = 0 then cntR (P 2) 8 else if k = 1 then P 6 4 else if k = 2 then P 6 1 else if k = 3 then P 6 3 else if k = 4 then P 6 13 else if k = 5 then P 0 18 else P 0 2) else -1000001), g, th P, ?_, ?_, X', Gr_eq c (by omega)⟩
  · obtain ⟨A, nx, a1, -⟩ := x4
    obtain ⟨pl, fa, fp, t1, -⟩ := x3
    have hk : f_A_kept (some 10) h = some (zI (P 0 18)) := by
      unfold f_A_kept
      rw [gfi_o a1 (k := 7) (x := zI (P 0 18)) rfl rfl]
      rfl
    have ht : f_T_length (some 8) h = some (zI (P 0 2)) := by
      unfold f_T_length
      rw [gfi_o t1 (k := 1) (x := zI (P 0 2)) rfl rfl]
      rfl
    have on8 : ∀ (x : Option Int32), onc h (some 8) 9 x = x := fun x => onc_o t1
    have on10 : ∀ (x : Option Int32), onc h (some 10) 0 x = x := fun x => onc_o a1
    unfold f_C_count
    simp only [cg0 x1, cg1 x1, cg2 x1, cg4 x1, bd, rw_on x2, h0, g8, g0, g2, g7, on8, on10, hk, ht]
    rw [show (1 : Int32) = zI 1 from rfl, show (0 : Int32) = zI 0 from rfl, show (2 : Int32) = zI 2 from rfl, show (3 : Int32) = zI 3 from rfl, show (4 : Int32) = zI 4 from rfl, show (5 : Int32) = zI 5 from rfl, show (6 : Int32) = zI 6 from rfl]
    simp (disch := omega) only [zI_eq]
    by_cases cc : 0 ≤ k ∧ k ≤ 6
    · rw [if_pos cc]
      rcases (show k = 0 ∨ k = 1 ∨ k = 2 ∨ k = 3 ∨ k = 4 ∨ k = 5 ∨ k = 6 by omega) with rfl | rfl | rfl | rfl | rfl | rfl | rfl <;> rfl
    · rw [if_neg cc]
      repeat rw [if_neg (by omega)]
      rfl
  · unfold f_M_count
    rw [e, bd, show (6 : Int32) = zI 6 from rfl, show (0 : Int32) = zI 0 from rfl, s_M_in k1 k2 (by omega) (by omega) (by omega) (by omega)]
    by_cases cc : 0 ≤ k ∧ k ≤ 6
    · rw [if_pos cc, if_pos cc, if_neg (by decide)]
      exact m_count22 (F := F) M hla cc.1 cc.2 8 0 F rfl (by omega)
    · rw [if_neg cc, if_neg cc, if_pos (show (0 : Int32) = zI 0 from rfl)]
      rfl
