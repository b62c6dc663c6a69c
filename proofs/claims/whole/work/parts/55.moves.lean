/-! ===== where the search's moves lead ===== -/
section
variable {v : Nat → Int} {less st : Int} {h : MH} {R : Nat → Nat → Int}
/-- what stays the same while one explores -/
def Fx (v : Nat → Int) (less : Int) (R : Nat → Nat → Int) : Prop := R 0 0 = vD v less ∧ R 0 1 = leV v ∧ R 0 2 = pj (leV v) (ndV v) ∧ Pc v (R 7) (R 8) ∧ ∀ j : Nat, j < 192 → R 1 j = shal v ((j : Int) / 8) ((j : Int) % 8)
theorem s_clearAt (W : Wv v) (S : Sr h R) (hc : ∀ j : Nat, j < 192 → R 1 j = shal v ((j : Int) / 8) ((j : Int) % 8)) {c t : Int} (c1 : -1 ≤ c) (c2 : c < 24) (t1 : 0 ≤ t) (t2 : t < 8) : f_S_clearAt (some 17) (zI c) (zI t) h = some (zI (shal v c t)) := by
  have ha := S.2 1 (by omega) (by omega)
  unfold f_S_clearAt
  rw [l8, zI_mul, zI_add]
  simp (disch := omega) only [l0, zI_lt]
  by_cases c0 : c < 0
  · rw [if_pos (by omega), show c = -1 by omega, shal_m1 W]
    rfl
  · rw [if_neg (by omega), sg0 S, bd, show alen h (some 18) = some (zI ((192 : Nat) : Int)) from alenZ ha, bd]
    simp (disch := omega) only [zI_le]
    rw [if_neg (by omega), bd, sr_ld S 1 (c := 18) (k := c * 8 + t) rfl (by omega) (by omega) (by omega) (show c * 8 + t < (192 : Nat) by omega), bd, hc _ (by omega), Int.toNat_of_nonneg (by omega), show (c * 8 + t) / 8 = c by omega, show (c * 8 + t) % 8 = t by omega]
theorem blow_shal (W : Wv v) {X Y T D w : Int} (hb : onB X Y = true) (t1 : 0 ≤ T) (t2 : T < 8) (hD : 0 ≤ D) (w1 : 0 ≤ w) (w2 : w < 8) : (vFits v (X + gx w) (Y + gy w) T D = true ↔ D ≤ shal v (bes (6 * Y + X) w) T) ∧ (vFits v (X + gx w) (Y + gy w) T D = true → bes (6 * Y + X) w = 6 * (Y + gy w) + (X + gx w)) := by
  have hxy := onB_iff.mp hb
  unfold bes
  rw [show (6 * Y + X) % 6 = X by omega, show (6 * Y + X) / 6 = Y by omega, show w % 8 = w by omega]
  by_cases b : onB (X + gx w) (Y + gy w) = true
  · have hb2 := onB_iff.mp b
    rw [if_pos ⟨by omega, b⟩, shal_fits (by omega) (by omega) t1 t2 hD, show (6 * (Y + gy w) + (X + gx w)) % 6 = X + gx w by omega, show (6 * (Y + gy w) + (X + gx w)) / 6 = Y + gy w by omega]
    exact ⟨Iff.rfl, fun _ => rfl⟩
  · rw [if_neg (fun z => b z.2), shal_m1 W]
    exact ⟨⟨fun z => absurd (vFits_onB z) b, fun z => by omega⟩, fun z => absurd (vFits_onB z) b⟩
/-- what is behind a move from s, in the class's words -/
theorem s_behind (E : Es h) (W : Wv v) (S : Sr h R) (X : Fx v less R) (hl : 0 ≤ less) {s : Int} (s1 : 0 ≤ s) (s2 : s < 576) (sp : pj (leV v) s = s) {i : Nat} (hi : (i : Int) < v 4) {m : Int} (m1 : 0 ≤ m) (m2 : m < 8) {k' : Int} (he : eV v i m less s = some k') :
    f_S_behind (some 17) (zI (midB (s / 24) (s / 3 % 8) m)) (zI (tT (s / 3 % 8) m)) (zI (s % 3)) h = some (zI (pj (leV v) k')) := by
  have w1 := W.1
  have w4 := W.2.2.2.1
  have hl7 := leV_r W
  have hd := vD_r W hl
  have w5 := W.2.2.2.2.1 i hi
  obtain ⟨-, m2'⟩ := vLift_max (s := v (5 + i)) hd.1
  have ht := tT_r (t := s / 3 % 8) (m := m) (by omega) (by omega)
  have hr := eV_r W s1 s2 he
  rw [eV_eq v (by omega)] at he
  split at he
  · rename_i c
    rw [Bool.and_eq_true] at c
    obtain ⟨q1, q2⟩ := (mid_fits W (c := s / 24) (t := s / 3 % 8) (m := m) (d := vLift (v (5 + i)) (vD v less)) (by omega) (by omega) (by omega) (by omega) m1 m2 m2').2 c.2
    have hb := vFits_onB c.2
    have hxy := onB_iff.mp hb
    obtain ⟨A, hA⟩ : ∃ A, A = mX (s / 24 % 6) (s / 3 % 8) m := ⟨_, rfl⟩
    obtain ⟨B, hB⟩ : ∃ B, B = mY (s / 24 / 6) (s / 3 % 8) m := ⟨_, rfl⟩
    obtain ⟨T, hT⟩ : ∃ T, T = tT (s / 3 % 8) m := ⟨_, rfl⟩
    rw [← hA, ← hB] at q1 hb hxy
    rw [← hA, ← hB, ← hT] at he
    rw [← hT] at ht ⊢
    have he := Option.some.inj he
    rw [q1]
    unfold f_S_behind b_S_behind_59
    rw [sg9 S, bd, X.2.1, sg8 S, X.1]
    simp only [bd, l0, s_stateOf]
    simp (disch := omega) only [l2, l1, zI_neg, zI_eq, zI_add, s_stateOf]
    by_cases c1 : leV v = -1
    · rw [if_pos c1]
      have nb : vMid v (s % 3 + 1) (v 1) A B T (vD v less) = 6 * B + A := by
        unfold vMid
        rw [if_neg ?_]
        intro z
        unfold vBlow at z
        rw [Bool.and_eq_true, Bool.and_eq_true, decide_eq_true_eq, decide_eq_true_eq] at z
        unfold leV at c1
        rw [if_pos ⟨z.2.1, z.1.2⟩] at c1
        omega
      rw [nb] at he
      unfold pj
      rw [if_pos c1]
      congr 2
      omega
    · have hle : leV v = v 1 - 1 ∧ v 16 = 0 ∧ 0 < v 1 := by
        unfold leV at c1 ⊢
        by_cases c2 : v 16 = 0 ∧ 0 < v 1
        · rw [if_pos c2]; exact ⟨rfl, c2⟩
        · rw [if_neg c2] at c1; exact absurd rfl c1
      rw [if_neg c1]
      have hpk : pj (leV v) k' = k' := by unfold pj; rw [if_neg c1]
      rw [hpk]
      by_cases c2 : s % 3 = 2
      · rw [if_pos c2, s_beside E (by omega) (by omega) (by omega) (by omega), bd]
        have rb := bes_r (c := 6 * B + A) (d := leV v)
        have rs := shal_r W (c := bes (6 * B + A) (leV v)) (t := T) rb.2
        rw [sr_on S, s_clearAt W S X.2.2.2.2 rb.1 rb.2 ht.1 ht.2, bd]
        simp (disch := omega) only [zI_lt, s_stateOf]
        obtain ⟨f1, f2⟩ := blow_shal W (X := A) (Y := B) (T := T) (D := vD v less) (w := leV v) hb ht.1 ht.2 hd.1 (by omega) (by omega)
        have hbl : vBlow v (s % 3 + 1) (v 1) A B T (vD v less) = vFits v (A + gx (leV v)) (B + gy (leV v)) T (vD v less) := by
          unfold vBlow
          rw [decide_eq_true (show (s % 3 + 1) % 3 = 0 ∧ 0 < v 1 by omega), decide_eq_true hle.2.1, hle.1]
          rfl
        unfold vMid at he
        rw [hbl, ← hle.1] at he
        by_cases c3 : shal v (bes (6 * B + A) (leV v)) T < vD v less
        · rw [if_pos c3]
          rw [if_neg (fun z => by have := f1.mp z; omega)] at he
          congr 2
          omega
        · have hv := f1.mpr (by omega)
          rw [if_neg c3, f2 hv]
          rw [if_pos hv] at he
          congr 2
          omega
      · rw [if_neg c2]
        have nb : vMid v (s % 3 + 1) (v 1) A B T (vD v less) = 6 * B + A := by
          unfold vMid
          rw [if_neg ?_]
          intro z
          unfold vBlow at z
          rw [Bool.and_eq_true, Bool.and_eq_true, decide_eq_true_eq, decide_eq_true_eq] at z
          omega
        rw [nb] at he
        congr 2
        omega
  · cases he
/-- whether there is a move, in the class's words -/
theorem eV_some (W : Wv v) (hl : 0 ≤ less) {s : Int} (s1 : 0 ≤ s) (s2 : s < 576) {i : Nat} (hi : (i : Int) < v 4) {m : Int} (m1 : 0 ≤ m) (m2 : m < 8) (hk : mk (v (5 + i)) m = true) : vLift (v (5 + i)) (vD v less) ≤ shal v (midB (s / 24) (s / 3 % 8) m) (tT (s / 3 % 8) m) ↔ ∃ k', eV v i m less s = some k' := by
  have w4 := W.2.2.2.1
  have hd := vD_r W hl
  obtain ⟨-, m2'⟩ := vLift_max (s := v (5 + i)) hd.1
  rw [(mid_fits W (c := s / 24) (t := s / 3 % 8) (m := m) (d := vLift (v (5 + i)) (vD v less)) (by omega) (by omega) (by omega) (by omega) m1 m2 m2').1, eV_eq v (by omega), hk, Bool.true_and]
  constructor
  · intro z
    rw [if_pos z]
    exact ⟨_, rfl⟩
  · intro z
    by_cases c : vFits v (mX (s / 24 % 6) (s / 3 % 8) m) (mY (s / 24 / 6) (s / 3 % 8) m) (tT (s / 3 % 8) m) (vLift (v (5 + i)) (vD v less)) = true
    · exact c
    · rw [if_neg c] at z
      obtain ⟨k', z⟩ := z
      cases z
theorem eV_sort (i j : Nat) (hi : i < 4) (hj : j < 4) (m : Int) (h1 : mk (v (5 + i)) m = true) (h2 : mk (v (5 + j)) m = true) (h3 : v (5 + i) = 5 ↔ v (5 + j) = 5) (k : Int) : eV v i m less k = eV v j m less k := by
  have e : ∀ d, vLift (v (5 + i)) d = vLift (v (5 + j)) d := by
    intro d
    unfold vLift
    by_cases c : v (5 + i) = 5
    · rw [h3.mp c, c]
    · rw [if_neg (fun z => c z.1), if_neg (fun z => c (h3.mpr z.1))]
  rw [eV_eq v hi, eV_eq v hj, h1, h2, e]
end
