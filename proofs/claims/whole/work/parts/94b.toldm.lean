/-! ===== what is told, the reference: tokens ===== -/
def Ma (Q Q' : Nat → Nat → Int) : Prop := (∀ j, j ≠ 0 → Q' j = Q j) ∧ ∀ j, (j < 3 ∨ 6 < j) → Q' 0 j = Q 0 j
theorem Ma_0 (Q : Nat → Nat → Int) : Ma Q Q := ⟨fun _ _ => rfl, fun _ _ => rfl⟩
theorem Ma.tr {Q Q1 Q2 : Nat → Nat → Int} (a : Ma Q Q1) (b : Ma Q1 Q2) : Ma Q Q2 := ⟨fun j h => (b.1 j h).trans (a.1 j h), fun j h => (b.2 j h).trans (a.2 j h)⟩
theorem Ma_pf (Q : Nat → Nat → Int) {j : Nat} (h : 3 ≤ j ∧ j ≤ 6) (x : Int) : Ma Q (upR Q 0 (upI (Q 0) j x)) := ⟨fun i hi => by unfold upR; rw [if_neg hi], fun i hi => upI_n _ _ (by omega)⟩
def Adv (L : Nat → Int) (p : Nat) (tok val nxt : Int) : Prop := (L p < 0 → tok = 0 ∧ nxt = p) ∧ (isF (L p) = true → (dcN L p ≤ 2 → tok = 2 ∧ val = vlN L p ∧ nxt = p + dcN L p) ∧ (dcN L p = 3 → tok = 4)) ∧ (0 ≤ L p → ¬ isF (L p) = true → nxt = p + 1 ∧ val = L p ∧ tok = if 97 ≤ L p ∧ L p ≤ 122 then 1 else if L p = 44 ∨ L p = 59 then 3 else 4)
theorem Adv.tok {L : Nat → Int} {p : Nat} {tok val nxt : Int} (A : Adv L p tok val nxt) : 0 ≤ tok ∧ tok ≤ 4 := by
  obtain ⟨a, b, c⟩ := A
  have h3 := dcN_le L p
  by_cases c1 : L p < 0
  · have := (a c1).1
    omega
  · by_cases c2 : isF (L p) = true
    · by_cases c3 : dcN L p ≤ 2
      · have := ((b c2).1 c3).1
        omega
      · have := (b c2).2 (by omega)
        omega
    · have := (c (by omega) c2).2.2
      rw [this]
      split <;> (try split) <;> omega
section
variable {F : Nat} {tp : Nat → Int} {n : Int} {g : MH} {Q : Nat → Nat → Int}
theorem m_la (M : Mr g Q) (h1 : Q 1 = tp) (h2 : Q 0 2 = n) (hn : 0 ≤ n ∧ n ≤ 120) {p : Nat} (hp : p < 1000) : f_M_letterAt (some 34) (zI (p : Int)) g = some (zI (Lt tp n p)) := by
  have x1 : zI n ≤ zI (p : Int) ↔ n ≤ (p : Int) := zI_le (by omega) (by omega) (by omega) (by omega)
  have A : g.1 35 = aZ 120 tp := by rw [← h1]; exact M.2 1 (by omega) (by omega)
  unfold f_M_letterAt Lt
  rw [mf2 M, h2, bd]
  simp only [x1]
  by_cases c : n ≤ (p : Int)
  · rw [if_pos c, if_neg (by omega)]
    rfl
  · rw [if_neg c, if_pos (by omega), mg1 M, bd, aldN A (by omega) (by omega)]
    rfl
def yv (L : Nat → Int) (q i : Nat) : Int := if i = 0 then 0 else if i = 1 then L q - 48 else 10 * (L q - 48) + (L (q + 1) - 48)
theorem m_inF {c : Int} (hc : -1 ≤ c ∧ c ≤ 255) : f_M_in (zI c) (48 : Int32) (57 : Int32) = 0 ↔ ¬ isF c = true := by
  rw [show f_M_in (zI c) (48 : Int32) (57 : Int32) = if 48 ≤ c ∧ c ≤ 57 then 1 else 0 from s_M_in (a := 48) (b := 57) (by omega) (by omega) (by omega) (by omega) (by omega) (by omega), ite_01, isF_iff]
theorem m_adv45 (hn : 0 ≤ n ∧ n ≤ 120) (ht : ∀ k : Nat, (k : Int) < n → 0 ≤ tp k ∧ tp k ≤ 255) {q : Nat} (hq : (q : Int) ≤ n) : ∀ (d i fu : Nat) (g : MH) (Q : Nat → Nat → Int), i + d = 130 → d < fu → Mr g Q → Q 1 = tp → Q 0 2 = n → Q 0 3 = ((q + i : Nat) : Int) → Q 0 5 = q → (∀ j, j < i → isF (Lt tp n (q + j)) = true) → Q 0 6 = yv (Lt tp n) q i → ∃ g' Q' i', b_M_advances_45 F fu (some 34) g = some g' ∧ Ch 34 47 g g' ∧ Mr g' Q' ∧ Ma Q Q' ∧ (∀ j, j < i' → isF (Lt tp n (q + j)) = true) ∧ ¬ isF (Lt tp n (q + i')) = true ∧ Q' 0 3 = ((q + i' : Nat) : Int) ∧ Q' 0 5 = q ∧ Q' 0 6 = yv (Lt tp n) q i' ∧ Q' 0 4 = if i' ≤ 2 then 2 else 4 := by
  intro d
  induction d with
  | zero =>
    intro i fu g Q hi hf M h1 h2 h3 h5 hd h6
    have e := (isF_iff _).mp (hd 129 (by omega))
    have := (Lt_r ht (q + 129)).2.2 (by omega)
    omega
  | succ d ih =>
    intro i fu g Q hi hf M h1 h2 h3 h5 hd h6
    obtain ⟨fu, rfl⟩ : ∃ z, fu = z + 1 := ⟨fu - 1, by omega⟩
    have hl := Lt_r ht (q + i)
    have la := m_la M h1 h2 hn (p := q + i) (by omega)
    have xf := m_inF (c := Lt tp n (q + i)) (by omega)
    have x2 : zI ((i : Nat) : Int) ≤ (2 : Int32) ↔ ((i : Nat) : Int) ≤ 2 := zI_le (b := 2) (by omega) (by omega) (by omega) (by omega)
    have x2' : (2 : Int32) ≤ zI ((i : Nat) : Int) ↔ 2 ≤ ((i : Nat) : Int) := zI_le (a := 2) (by omega) (by omega) (by omega) (by omega)
    have esub : zI ((q + i : Nat) : Int) - zI (q : Int) = zI (i : Int) := by rw [zI_sub]; congr 1; omega
    by_cases c : isF (Lt tp n (q + i)) = true
    · have hc := (isF_iff _).mp c
      -- one figure more
      have hy : (if 2 ≤ (i : Int) then zI (Q 0 6) else (((10 : Int32) * zI (Q 0 6)) + zI (Lt tp n (q + i))) - (48 : Int32)) = zI (yv (Lt tp n) q (i + 1)) := by
        rw [h6, l10, zI_mul, zI_add, show (48 : Int32) = zI 48 from rfl, zI_sub]
        by_cases c2 : 2 ≤ (i : Int)
        · rw [if_pos c2]
          unfold yv
          rw [if_neg (by omega), if_neg (by omega), if_neg (by omega), if_neg (by omega)]
        · rw [if_neg c2]
          congr 1
          unfold yv
          by_cases c0 : i = 0
          · rw [if_pos c0, if_neg (by omega), if_pos (by omega), c0, Nat.add_zero]
            omega
          · have i1 : i = 1 := by omega
            rw [if_neg c0, if_pos i1, if_neg (by omega), if_neg (by omega), i1]
            omega
      obtain ⟨g1, e1, c1, M1⟩ := mr_pf M 6 rfl (yv (Lt tp n) q (i + 1))
      have m3 : gfi g1 (some 34) [11] 3 = some (zI (Q 0 3)) := by have := mf3 M1; exact this
      obtain ⟨g2, e2, c2, M2⟩ := mr_pf M1 3 rfl ((q + (i + 1) : Nat) : Int)
      have ma : Ma Q (upR (upR Q 0 (upI (Q 0) 6 (yv (Lt tp n) q (i + 1)))) 0 (upI (upR Q 0 (upI (Q 0) 6 (yv (Lt tp n) q (i + 1))) 0) 3 ((q + (i + 1) : Nat) : Int))) := (Ma_pf Q (by omega) _).tr (Ma_pf _ (by omega) _)
      obtain ⟨g3, Q3, i', e3, c3, M3, a3, r1, r2, r3, r4, r5, r6⟩ := ih (i + 1) fu g2 _ (by omega) (by omega) M2 h1 h2 rfl h5 (fun j hj => by
        by_cases z : j = i
        · rw [z]; exact c
        · exact hd j (by omega)) rfl
      refine ⟨g3, Q3, i', ?_, c1.tr (c2.tr c3), M3, ma.tr a3, r1, r2, r3, r4, r5, r6⟩
      have k103 : b_M_advances_103 F (b_M_advances_45 F fu) (some 34) (some 34) (zI (yv (Lt tp n) q (i + 1))) g = some g3 := by
        unfold b_M_advances_103
        rw [e1, bd, m3, bd, h3, l1, zI_add, show ((q + i : Nat) : Int) + 1 = ((q + (i + 1) : Nat) : Int) by omega, e2, bd]
        exact e3
      unfold b_M_advances_45
      rw [mf3 M, mf5 M, mf6 M, h3, h5]
      simp only [bd, mr_on M, la, xf, esub, x2']
      rw [if_neg (fun z => z c)]
      by_cases cc : 2 ≤ (i : Int)
      · rw [if_pos cc] at hy
        rw [if_pos cc, hy, k103]
      · rw [if_neg cc] at hy
        rw [if_neg cc, hy, k103]
    · obtain ⟨g1, e1, c1, M1⟩ := mr_pf M 4 rfl (if i ≤ 2 then 2 else 4)
      refine ⟨g1, _, i, ?_, c1, M1, Ma_pf Q (by omega) _, hd, c, h3, h5, h6, rfl⟩
      unfold b_M_advances_45 b_M_advances_138
      rw [mf3 M, mf5 M, mf6 M, h3, h5]
      simp only [bd, mr_on M, la, xf, esub, x2]
      rw [if_pos c]
      by_cases cc : (i : Int) ≤ 2
      · rw [if_pos (by omega)] at e1
        rw [if_pos cc, show (2 : Int32) = zI 2 from rfl, e1]
        rfl
      · rw [if_neg (by omega)] at e1
        rw [if_neg cc, show (4 : Int32) = zI 4 from rfl, e1]
        rfl
theorem m_adv (hF : 1000 ≤ F) (hn : 0 ≤ n ∧ n ≤ 120) (ht : ∀ k : Nat, (k : Int) < n → 0 ≤ tp k ∧ tp k ≤ 255) (M : Mr g Q) (h1 : Q 1 = tp) (h2 : Q 0 2 = n) {q : Nat} (h3 : Q 0 3 = q) (hq : (q : Int) ≤ n) : ∃ g' Q', f_M_advances F (some 34) g = some g' ∧ Ch 34 47 g g' ∧ Mr g' Q' ∧ Ma Q Q' ∧ Q' 0 5 = q ∧ Adv (Lt tp n) q (Q' 0 4) (Q' 0 6) (Q' 0 3) := by
  have hl := Lt_r ht q
  obtain ⟨g1, e1, c1, M1⟩ := mr_pf M 5 rfl (q : Int)
  have a1 := Ma_pf Q (j := 5) (by omega) (q : Int)
  have m3 : gfi g1 (some 34) [11] 3 = some (zI (q : Int)) := by have := mf3 M1; rw [← h3]; exact this
  have la := m_la M1 h1 h2 hn (p := q) (by omega)
  have x0 : (0 : Int32) ≤ zI (Lt tp n q) ↔ 0 ≤ Lt tp n q := zI_le (a := 0) (by omega) (by omega) (by omega) (by omega)
  have xf := m_inF (c := Lt tp n q) (by omega)
  have pre : ∀ R, (if 0 ≤ Lt tp n q then (if ¬ isF (Lt tp n q) = true then (Option.bind (gfi g1 (some 34) [11] 3) fun x11 =>
      Option.bind (pfv g1 (some 34) [11] 3 (.int (x11 + (1 : Int32)))) fun h13 =>
      Option.bind (pfv h13 (some 34) [11] 6 (.int (zI (Lt tp n q)))) fun h15 =>
      if (f_M_in (zI (Lt tp n q)) (97 : Int32) (122 : Int32)) = 0 then
        if zI (Lt tp n q) = (44 : Int32) then
          b_M_advances_187 F (some 34) h15
        else
          if zI (Lt tp n q) = (59 : Int32) then
            b_M_advances_187 F (some 34) h15
          else
            b_M_advances_192 F (some 34) (4 : Int32) h15
      else
        b_M_advances_192 F (some 34) (1 : Int32) h15) else (Option.bind (pfv g1 (some 34) [11] 6 (.int (0 : Int32))) fun h20 => b_M_advances_45 F F (some 34) h20)) else (Option.bind (pfv g1 (some 34) [11] 4 (.int (0 : Int32))) fun h22 => some h22)) = R → f_M_advances F (some 34) g = R := by
    intro R hR
    rw [← hR]
    unfold f_M_advances
    rw [mf3 M, bd, h3, e1, bd, m3, bd, mr_on M1, la, bd]
    simp only [x0, xf]
  by_cases c0 : 0 ≤ Lt tp n q
  · have hqn := hl.2.2 c0
    by_cases cf : isF (Lt tp n q) = true
    · obtain ⟨g2, e2, c2, M2⟩ := mr_pf M1 6 rfl 0
      obtain ⟨g3, Q3, i, e3, c3, M3, a3, r1, r2, r3, r4, r5, r6⟩ := m_adv45 (F := F) hn ht hq 130 0 F g2 _ rfl (by omega) M2 h1 h2 (by rw [Nat.add_zero]; exact h3) rfl (fun j hj => absurd hj (by omega)) rfl
      refine ⟨g3, Q3, pre _ ?_, c1.tr (c2.tr c3), M3, a1.tr ((Ma_pf _ (by omega) _).tr a3), r4, fun z => absurd c0 (by omega), fun _ => ?_, fun _ z => absurd cf z⟩
      · rw [if_pos c0, if_neg (fun z => z cf), show (Value.int (0 : Int32)) = Value.int (zI 0) from rfl, e2, bd]
        exact e3
      · have i0 : i ≠ 0 := fun z => by rw [z, Nat.add_zero] at r2; exact r2 cf
        have d1 : dcN (Lt tp n) q = if i ≤ 2 then i else 3 := by
          unfold dcN
          rw [if_pos cf]
          by_cases c1 : i = 1
          · rw [c1] at r2
            rw [if_neg r2, if_pos (by omega), c1]
          · have b1 := r1 1 (by omega)
            rw [if_pos b1]
            by_cases c2 : i = 2
            · rw [c2] at r2
              rw [if_neg r2, if_pos (by omega), c2]
            · have b2' := r1 2 (by omega)
              rw [if_pos b2', if_neg (by omega)]
        by_cases ci : i ≤ 2
        · rw [if_pos ci] at d1 r6
          refine ⟨fun _ => ⟨r6, ?_, by rw [r3, d1]; omega⟩, fun z => by omega⟩
          rw [r5]
          unfold yv vlN
          rw [d1, if_neg i0]
        · rw [if_neg ci] at d1 r6
          exact ⟨fun z => by omega, fun _ => r6⟩
    · obtain ⟨g2, e2, c2, M2⟩ := mr_pf M1 3 rfl ((q : Int) + 1)
      obtain ⟨g3, e3, c3, M3⟩ := mr_pf M2 6 rfl (Lt tp n q)
      obtain ⟨g4, e4, c4, M4⟩ := mr_pf M3 4 rfl (if 97 ≤ Lt tp n q ∧ Lt tp n q ≤ 122 then 1 else if Lt tp n q = 44 ∨ Lt tp n q = 59 then 3 else 4)
      have x97 : f_M_in (zI (Lt tp n q)) (97 : Int32) (122 : Int32) = 0 ↔ ¬ (97 ≤ Lt tp n q ∧ Lt tp n q ≤ 122) := by
        rw [show f_M_in (zI (Lt tp n q)) (97 : Int32) (122 : Int32) = if 97 ≤ Lt tp n q ∧ Lt tp n q ≤ 122 then 1 else 0 from s_M_in (a := 97) (b := 122) (by omega) (by omega) (by omega) (by omega) (by omega) (by omega), ite_01]
      have x44 : zI (Lt tp n q) = (44 : Int32) ↔ Lt tp n q = 44 := zI_eq (b := 44) (by omega) (by omega) (by omega) (by omega)
      have x59 : zI (Lt tp n q) = (59 : Int32) ↔ Lt tp n q = 59 := zI_eq (b := 59) (by omega) (by omega) (by omega) (by omega)
      refine ⟨g4, _, pre _ ?_, c1.tr (c2.tr (c3.tr c4)), M4, a1.tr ((Ma_pf _ (by omega) _).tr ((Ma_pf _ (by omega) _).tr (Ma_pf _ (by omega) _))), rfl, fun z => absurd c0 (by omega), fun z => absurd z cf, fun _ _ => ⟨rfl, rfl, rfl⟩⟩
      rw [if_pos c0, if_pos cf, m3, bd, l1, zI_add, e2, bd, e3, bd]
      simp only [x97, x44, x59]
      unfold b_M_advances_187 b_M_advances_192
      by_cases d1 : 97 ≤ Lt tp n q ∧ Lt tp n q ≤ 122
      · rw [if_pos d1] at e4
        rw [if_neg (fun z => z d1), show zI 1 = zI 1 from rfl, e4]
        rfl
      · rw [if_neg d1] at e4
        rw [if_pos d1]
        by_cases d2 : Lt tp n q = 44
        · rw [if_pos (Or.inl d2)] at e4
          rw [if_pos d2, show (3 : Int32) = zI 3 from rfl, e4]
          rfl
        · rw [if_neg d2]
          by_cases d3 : Lt tp n q = 59
          · rw [if_pos (Or.inr d3)] at e4
            rw [if_pos d3, show (3 : Int32) = zI 3 from rfl, e4]
            rfl
          · rw [if_neg (fun z => z.elim d2 d3)] at e4
            rw [if_neg d3, show (4 : Int32) = zI 4 from rfl, e4]
            rfl
  · obtain ⟨g2, e2, c2, M2⟩ := mr_pf M1 4 rfl 0
    have hnf : ¬ isF (Lt tp n q) = true := fun z => by
      have := (isF_iff _).mp z
      omega
    refine ⟨g2, _, pre _ ?_, c1.tr c2, M2, a1.tr (Ma_pf _ (by omega) _), rfl, fun _ => ⟨rfl, h3⟩, fun z => absurd z hnf, fun z => absurd z c0⟩
    rw [if_neg c0, show (Value.int (0 : Int32)) = Value.int (zI 0) from rfl, e2]
    rfl
end
