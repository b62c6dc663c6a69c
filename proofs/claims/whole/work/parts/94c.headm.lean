/-! ===== what is told, the reference: head ===== -/
/-- the reference's registers, by the grammar -/
def MR (L : Nat → Int) (n : Int) (Q : Nat → Nat → Int) (S : PS) : Prop := match S with
  | .ok (_, p) => Q 0 7 = 0 ∧ Q 0 5 = p ∧ (p : Int) ≤ n ∧ Adv L p (Q 0 4) (Q 0 6) (Q 0 3)
  | .error e => Q 0 7 = e.1 ∧ Q 0 8 = e.2 ∧ (1 ≤ e.1 ∧ e.1 ≤ 3) ∧ (0 ≤ e.2 ∧ e.2 ≤ 120)
def Mg (Q Q' : Nat → Nat → Int) : Prop := (∀ j, j ≠ 0 → j ≠ 5 → Q' j = Q j) ∧ ∀ j, (j < 3 ∨ 8 < j) → Q' 0 j = Q 0 j
theorem Mg_0 (Q : Nat → Nat → Int) : Mg Q Q := ⟨fun _ _ _ => rfl, fun _ _ => rfl⟩
theorem Mg.tr {Q Q1 Q2 : Nat → Nat → Int} (a : Mg Q Q1) (b : Mg Q1 Q2) : Mg Q Q2 := ⟨fun j h h' => (b.1 j h h').trans (a.1 j h h'), fun j h => (b.2 j h).trans (a.2 j h)⟩
theorem Ma.mg {Q Q' : Nat → Nat → Int} (a : Ma Q Q') : Mg Q Q' := ⟨fun j h _ => a.1 j h, fun j h => a.2 j (by omega)⟩
theorem Mg_pf (Q : Nat → Nat → Int) {j : Nat} (h : 3 ≤ j ∧ j ≤ 8) (x : Int) : Mg Q (upR Q 0 (upI (Q 0) j x)) := ⟨fun i hi _ => by unfold upR; rw [if_neg hi], fun i hi => upI_n _ _ (by omega)⟩
theorem Mg_5 (Q : Nat → Nat → Int) (f : Nat → Int) : Mg Q (upR Q 5 f) := ⟨fun i _ hi => by unfold upR; rw [if_neg hi], fun i hi => by unfold upR; rw [if_neg (by decide)]⟩
section
variable {F : Nat} {tp : Nat → Int} {n : Int} {g : MH} {Q : Nat → Nat → Int} {S : PS}
theorem m_well (M : Mr g Q) (h : 0 ≤ Q 0 7 ∧ Q 0 7 ≤ 3) : f_M_isWell (some 34) g = some (if Q 0 7 = 0 then 1 else 0) := by
  have x0 : zI (Q 0 7) = (0 : Int32) ↔ Q 0 7 = 0 := zI_eq (b := 0) (by omega) (by omega) (by omega) (by omega)
  unfold f_M_isWell
  rw [mf7 M, bd]
  simp only [x0]
  split <;> rfl
theorem m_fail0 (M : Mr g Q) (h : Q 0 7 = 0) {p : Nat} (h5 : Q 0 5 = p) (hp : p ≤ 120) {k : Int} (hk : 1 ≤ k ∧ k ≤ 3) : ∃ g' Q', f_M_fails (some 34) (zI k) g = some g' ∧ Ch 34 47 g g' ∧ Mr g' Q' ∧ Mg Q Q' ∧ Q' 5 = Q 5 ∧ MR (Lt tp n) n Q' (.error (k, (p : Int))) := by
  obtain ⟨g1, e1, c1, M1⟩ := mr_pf M 7 rfl k
  have m5 : gfi g1 (some 34) [11] 5 = some (zI (Q 0 5)) := by have := mf5 M1; exact this
  obtain ⟨g2, e2, c2, M2⟩ := mr_pf M1 8 rfl (p : Int)
  refine ⟨g2, _, ?_, c1.tr c2, M2, (Mg_pf Q (by omega) _).tr (Mg_pf _ (by omega) _), rfl, rfl, rfl, hk, by omega⟩
  unfold f_M_fails
  rw [mr_on M, m_well M (by omega), bd, if_pos h, if_neg (by decide), e1, bd, m5, bd, h5, e2]
  rfl
theorem m_wE (M : Mr g Q) {e : Int × Int} (R : MR (Lt tp n) n Q (.error e)) : f_M_isWell (some 34) g = some 0 := by
  obtain ⟨r1, r2, r3, r4⟩ := R
  have h0 : ¬ Q 0 7 = 0 := by
    rw [r1]
    omega
  have hr : 0 ≤ Q 0 7 ∧ Q 0 7 ≤ 3 := by
    rw [r1]
    omega
  rw [m_well M hr, if_neg h0]
theorem m_failE (M : Mr g Q) {e : Int × Int} (R : MR (Lt tp n) n Q (.error e)) (k : Int32) : f_M_fails (some 34) k g = some g := by
  unfold f_M_fails
  rw [mr_on M, m_wE M R, bd, if_pos rfl]
theorem m_wO (M : Mr g Q) {v : Nat → Int} {p : Nat} (R : MR (Lt tp n) n Q (.ok (v, p))) : f_M_isWell (some 34) g = some 1 := by
  obtain ⟨r1, r2, r3, r4⟩ := R
  rw [m_well M (by omega), if_pos r1]
theorem m_letE (M : Mr g Q) {e : Int × Int} (R : MR (Lt tp n) n Q (.error e)) (ki ci : Int32) : f_M_wants F (some 34) ki ci g = some g := by
  have hw := m_wE M R
  have hf := m_failE M R 1
  unfold f_M_wants b_M_wants_16 b_M_wants_21
  simp only [mf4 M, mf6 M, bd, mr_on M, hw, hf, ↓reduceIte, ite_self]
theorem m_numE (M : Mr g Q) {e : Int × Int} (R : MR (Lt tp n) n Q (.error e)) (lo hi ag : Int32) : f_M_number F (some 34) lo hi ag g = some (lo, g) := by
  have hw := m_wE M R
  have hf := fun k => m_failE M R k
  have e52 : ∀ s0, b_M_number_52 F (some 34) s0 g = some (s0, g) := by
    intro s0
    unfold b_M_number_52
    rw [mr_on M, hw, bd, if_pos rfl]
  have e37 : b_M_number_37 F (some 34) lo g = some (lo, g) := by
    unfold b_M_number_37
    rw [mr_on M, hw, bd, if_pos rfl, e52]
  have e32 : b_M_number_32 F (some 34) lo g = some (lo, g) := by
    unfold b_M_number_32
    rw [mr_on M, hf, bd, e37]
  unfold f_M_number
  simp only [mf4 M, mf6 M, bd, mr_on M, hf, e37, e32, ite_self]
theorem m_let (hF : 1000 ≤ F) (hn : 0 ≤ n ∧ n ≤ 120) (ht : ∀ k : Nat, (k : Int) < n → 0 ≤ tp k ∧ tp k ≤ 255) (M : Mr g Q) (h1 : Q 1 = tp) (h2 : Q 0 2 = n) (R : MR (Lt tp n) n Q S) {kd c : Int} (hk : (kd = 1 ∧ 97 ≤ c ∧ c ≤ 122) ∨ (kd = 3 ∧ (c = 44 ∨ c = 59))) : ∃ g' Q', f_M_wants F (some 34) (zI kd) (zI c) g = some g' ∧ Ch 34 47 g g' ∧ Mr g' Q' ∧ Mg Q Q' ∧ Q' 5 = Q 5 ∧ MR (Lt tp n) n Q' (sL (Lt tp n) c S) := by
  cases S with
  | error e => exact ⟨g, Q, m_letE M R _ _, Ch_0 _ _ g, M, Mg_0 Q, rfl, R⟩
  | ok vp =>
    obtain ⟨v, p⟩ := vp
    obtain ⟨r1, r2, r3, A⟩ := id R
    have hl := Lt_r ht p
    have htok := A.tok
    have xk : zI (Q 0 4) = zI kd ↔ Q 0 4 = kd := zI_eq (by omega) (by omega) (by omega) (by omega)
    have e21 : Q 0 4 = kd ∧ Q 0 6 = c → Lt tp n p = c → ∃ g' Q', b_M_wants_21 F (some 34) g = some g' ∧ Ch 34 47 g g' ∧ Mr g' Q' ∧ Mg Q Q' ∧ Q' 5 = Q 5 ∧ MR (Lt tp n) n Q' (sL (Lt tp n) c (.ok (v, p))) := by
      intro _ hc
      have hnf : ¬ isF (Lt tp n p) = true := fun z => by
        have := (isF_iff _).mp z
        omega
      have hA := A.2.2 (by omega) hnf
      obtain ⟨g1, Q1, e1, c1, M1, a1, b1, A1⟩ := m_adv (F := F) hF hn ht M h1 h2 (q := p + 1) (by omega) (by have := hl.2.2 (by omega); omega)
      refine ⟨g1, Q1, ?_, c1, M1, a1.mg, a1.1 5 (by decide), ?_⟩
      · unfold b_M_wants_21
        rw [mr_on M, m_wO M R, bd, if_neg (by decide), mr_on M, e1]
        rfl
      · rw [show sL (Lt tp n) c (.ok (v, p)) = .ok (v, p + 1) from if_pos hc]
        exact ⟨by rw [a1.2 7 (by omega)]; exact r1, b1, by have := hl.2.2 (by omega); omega, A1⟩
    have e16 : Lt tp n p ≠ c → ∃ g' Q', b_M_wants_16 F (some 34) g = some g' ∧ Ch 34 47 g g' ∧ Mr g' Q' ∧ Mg Q Q' ∧ Q' 5 = Q 5 ∧ MR (Lt tp n) n Q' (sL (Lt tp n) c (.ok (v, p))) := by
      intro hc
      obtain ⟨g1, Q1, e1, c1, M1, a1, b1, R1⟩ := m_fail0 (tp := tp) (n := n) M r1 r2 (by omega) (k := 1) (by omega)
      refine ⟨g1, Q1, ?_, c1, M1, a1, b1, by rw [show sL (Lt tp n) c (.ok (v, p)) = .error (1, (p : Int)) from if_neg hc]; exact R1⟩
      unfold b_M_wants_16 b_M_wants_21
      rw [mr_on M, l1, e1, bd, mr_on M1, m_wE M1 R1, bd, if_pos rfl]
    unfold f_M_wants
    rw [mf4 M, bd]
    simp only [xk]
    by_cases hc : Lt tp n p = c
    · have hnf : ¬ isF (Lt tp n p) = true := fun z => by
        have := (isF_iff _).mp z
        omega
      obtain ⟨q1, q2, q3⟩ := A.2.2 (by omega) hnf
      have tk : Q 0 4 = kd := by
        rw [q3, hc]
        rcases hk with ⟨k1, k2⟩ | ⟨k1, k2⟩
        · rw [if_pos k2, k1]
        · rw [if_neg (by omega), if_pos k2, k1]
      rw [if_pos tk, mf6 M, bd, q2, hc, if_pos rfl]
      exact e21 ⟨tk, by omega⟩ hc
    · by_cases tk : Q 0 4 = kd
      · rw [if_pos tk, mf6 M, bd]
        have hval : Q 0 6 = Lt tp n p := by
          by_cases z1 : Lt tp n p < 0
          · have := (A.1 z1).1
            omega
          · by_cases z2 : isF (Lt tp n p) = true
            · have hd := dcN_le (Lt tp n) p
              by_cases z3 : dcN (Lt tp n) p ≤ 2
              · have := ((A.2.1 z2).1 z3).1
                omega
              · have := (A.2.1 z2).2 (by omega)
                omega
            · exact (A.2.2 (by omega) z2).2.1
        have xc : zI (Q 0 6) = zI c ↔ Q 0 6 = c := zI_eq (by omega) (by omega) (by omega) (by omega)
        simp only [xc]
        rw [if_neg (by omega)]
        exact e16 hc
      · rw [if_neg tk]
        exact e16 hc
theorem m_num (hF : 1000 ≤ F) (hn : 0 ≤ n ∧ n ≤ 120) (ht : ∀ k : Nat, (k : Int) < n → 0 ≤ tp k ∧ tp k ≤ 255) (M : Mr g Q) (h1 : Q 1 = tp) (h2 : Q 0 2 = n) (R : MR (Lt tp n) n Q S) {lo hi : Int} (hlo : 0 ≤ lo ∧ lo ≤ hi) (hhi : hi ≤ 100) (j : Nat) : ∃ x g' Q', f_M_number F (some 34) (zI lo) (zI hi) (0 : Int32) g = some (zI x, g') ∧ Ch 34 47 g g' ∧ Mr g' Q' ∧ Mg Q Q' ∧ Q' 5 = Q 5 ∧ MR (Lt tp n) n Q' (sN (Lt tp n) j lo hi S) ∧ ∀ v p v' p', S = .ok (v, p) → sN (Lt tp n) j lo hi S = .ok (v', p') → v' = upI v j x := by
  cases S with
  | error e => exact ⟨lo, g, Q, m_numE M R _ _ _, Ch_0 _ _ g, M, Mg_0 Q, rfl, R, fun v p v' p' z => by cases z⟩
  | ok vp =>
    obtain ⟨v, p⟩ := vp
    obtain ⟨r1, r2, r3, A⟩ := id R
    have hl := Lt_r ht p
    have htok := A.tok
    have hd3 := dcN_le (Lt tp n) p
    have hvr := vlN_r ht p
    have x2 : zI (Q 0 4) = (2 : Int32) ↔ Q 0 4 = 2 := zI_eq (b := 2) (by omega) (by omega) (by omega) (by omega)
    have fail : ∀ k : Int, 1 ≤ k ∧ k ≤ 3 → ∃ g' Q', (Option.bind (f_M_fails (some 34) (zI k) g) fun h8 => b_M_number_37 F (some 34) (zI lo) h8) = some (zI lo, g') ∧ Ch 34 47 g g' ∧ Mr g' Q' ∧ Mg Q Q' ∧ Q' 5 = Q 5 ∧ MR (Lt tp n) n Q' (.error (k, (p : Int))) := by
      intro k hk
      obtain ⟨g1, Q1, e1, c1, M1, a1, b1, R1⟩ := m_fail0 (tp := tp) (n := n) M r1 r2 (by omega) hk
      refine ⟨g1, Q1, ?_, c1, M1, a1, b1, R1⟩
      unfold b_M_number_37 b_M_number_52
      rw [e1, bd, mr_on M1, mr_on M1, m_wE M1 R1, bd, if_pos rfl, bd, if_pos rfl]
    have hdc : (dcN (Lt tp n) p = 1 ∨ dcN (Lt tp n) p = 2) ↔ Q 0 4 = 2 := by
      by_cases z1 : Lt tp n p < 0
      · have t := (A.1 z1).1
        have d0 : dcN (Lt tp n) p = 0 := by
          unfold dcN
          rw [if_neg (fun z => by have := (isF_iff _).mp z; omega)]
        omega
      · by_cases z2 : isF (Lt tp n p) = true
        · have d0 : dcN (Lt tp n) p ≠ 0 := by
            unfold dcN
            rw [if_pos z2]
            (repeat' split) <;> omega
          by_cases z3 : dcN (Lt tp n) p ≤ 2
          · have := ((A.2.1 z2).1 z3).1
            omega
          · have := (A.2.1 z2).2 (by omega)
            omega
        · have t := (A.2.2 (by omega) z2).2.2
          have d0 : dcN (Lt tp n) p = 0 := by
            unfold dcN
            rw [if_neg z2]
          have : Q 0 4 ≠ 2 := by
            rw [t]
            split <;> (try split) <;> omega
          omega
    have hA : Q 0 4 = 2 → Q 0 6 = vlN (Lt tp n) p ∧ Q 0 3 = p + dcN (Lt tp n) p := by
      intro t
      have d := hdc.mpr t
      have z2 : isF (Lt tp n p) = true := by
        by_cases z : isF (Lt tp n p) = true
        · exact z
        · unfold dcN at d
          rw [if_neg z] at d
          omega
      have := (A.2.1 z2).1 (by omega)
      exact this.2
    by_cases ok : okN (Lt tp n) lo hi p
    · have t := hdc.mp ok.1
      obtain ⟨v1, v2⟩ := hA t
      have hin := dcN_in ht p (by rcases ok.1 with z | z <;> omega)
      obtain ⟨g1, Q1, e1, c1, M1, a1, b1, A1⟩ := m_adv (F := F) hF hn ht M h1 h2 (q := p + dcN (Lt tp n) p) (by omega) (by omega)
      refine ⟨vlN (Lt tp n) p, g1, Q1, ?_, c1, M1, a1.mg, a1.1 5 (by decide), ?_, fun u q u' q' z1 z2 => ?_⟩
      · have xin : f_M_in (zI (vlN (Lt tp n) p)) (zI lo) (zI hi) = 0 ↔ ¬ (lo ≤ vlN (Lt tp n) p ∧ vlN (Lt tp n) p ≤ hi) := by
          rw [s_M_in (by omega) (by omega) (by omega) (by omega) (by omega) (by omega), ite_01]
        unfold f_M_number b_M_number_37 b_M_number_52
        rw [mf4 M, bd]
        simp only [x2]
        rw [if_pos t, mf6 M, bd, v1]
        simp only [xin]
        rw [if_neg (fun z => z ok.2), if_pos trivial, mr_on M, m_wO M R, bd, if_neg (by decide), bd, mr_on M, bd, if_neg (by decide), e1]
        rfl
      · rw [sN_ok ok]
        exact ⟨by rw [a1.2 7 (by omega)]; exact r1, b1, by omega, A1⟩
      · rw [sN_ok ok] at z2
        cases z1
        cases z2
        rfl
    · rw [sN_no ok]
      by_cases t : Q 0 4 = 2
      · have d := hdc.mpr t
        obtain ⟨v1, v2⟩ := hA t
        have hk : kdN (Lt tp n) p = 2 := by
          unfold kdN
          rw [if_pos d]
        obtain ⟨g1, Q1, e1, c1, M1, a1, b1, R1⟩ := fail 2 (by omega)
        refine ⟨lo, g1, Q1, ?_, c1, M1, a1, b1, by rw [hk]; exact R1, fun u q u' q' z1 z2 => by cases z2⟩
        have xin : f_M_in (zI (vlN (Lt tp n) p)) (zI lo) (zI hi) = 0 ↔ ¬ (lo ≤ vlN (Lt tp n) p ∧ vlN (Lt tp n) p ≤ hi) := by
          rw [s_M_in (by omega) (by omega) (by omega) (by omega) (by omega) (by omega), ite_01]
        unfold f_M_number b_M_number_32
        rw [mf4 M, bd]
        simp only [x2]
        rw [if_pos t, mf6 M, bd, v1]
        simp only [xin]
        rw [if_pos (fun z => ok ⟨d, z⟩), mr_on M]
        exact e1
      · have d : ¬ (dcN (Lt tp n) p = 1 ∨ dcN (Lt tp n) p = 2) := fun z => t (hdc.mp z)
        have hk : kdN (Lt tp n) p = 1 := by
          unfold kdN
          rw [if_neg d]
        obtain ⟨g1, Q1, e1, c1, M1, a1, b1, R1⟩ := fail 1 (by omega)
        refine ⟨lo, g1, Q1, ?_, c1, M1, a1, b1, by rw [hk]; exact R1, fun u q u' q' z1 z2 => by cases z2⟩
        unfold f_M_number
        rw [mf4 M, bd]
        simp only [x2]
        rw [if_neg t, mr_on M]
        exact e1
end
/-! the draft with it -/
def MM (g : MH) (tp : Nat → Int) (n : Int) (Q : Nat → Nat → Int) (S : PS) : Prop := Mr g Q ∧ Q 1 = tp ∧ Q 0 2 = n ∧ Wz (Q 5) ∧ MR (Lt tp n) n Q S ∧ ∀ v p, S = .ok (v, p) → Q 5 = v
section
variable {F : Nat} {tp : Nat → Int} {n : Int} {g : MH} {Q : Nat → Nat → Int} {S : PS}
theorem MM.on (X : MM g tp n Q S) {α : Type} (x : Option α) : onc g (some 34) 11 x = x := mr_on X.1 x
theorem MM.d (X : MM g tp n Q S) : gfr g (some 34) [11] 14 = some (some 39) := mg14 X.1
theorem q_let (hF : 1000 ≤ F) (hn : 0 ≤ n ∧ n ≤ 120) (ht : ∀ k : Nat, (k : Int) < n → 0 ≤ tp k ∧ tp k ≤ 255) (ki ci : Int32) {kd c : Int} (h1 : ki = zI kd) (h2 : ci = zI c) (hk : (kd = 1 ∧ 97 ≤ c ∧ c ≤ 122) ∨ (kd = 3 ∧ (c = 44 ∨ c = 59))) (X : MM g tp n Q S) : ∃ g' Q', f_M_wants F (some 34) ki ci g = some g' ∧ Ch 34 47 g g' ∧ Mg Q Q' ∧ MM g' tp n Q' (sL (Lt tp n) c S) := by
  obtain ⟨M, t1, t2, Z, R, V⟩ := X
  obtain ⟨g', Q', e, cc, M', a, b, R'⟩ := m_let (F := F) hF hn ht M t1 t2 R hk
  refine ⟨g', Q', by rw [h1, h2]; exact e, cc, a, M', (a.1 1 (by decide) (by decide)).trans t1, (a.2 2 (by omega)).trans t2, by rw [b]; exact Z, R', fun v q hq => ?_⟩
  obtain ⟨p, z1, -⟩ := sL_inv hq
  rw [b]
  exact V v p z1
theorem mm_st (X : MM g tp n Q S) {k : Int32} {j : Nat} (hkj : k = zI (j : Int)) (hj : j < 42) (x : Int) : ∃ g', ast g (some 39) 0 k (zI x) = some g' ∧ Ch 34 47 g g' ∧ Mg Q (upR Q 5 (upI (Q 5) j x)) ∧ Mr g' (upR Q 5 (upI (Q 5) j x)) ∧ Wz (upI (Q 5) j x) ∧ MR (Lt tp n) n (upR Q 5 (upI (Q 5) j x)) S := by
  obtain ⟨M, t1, t2, Z, R, V⟩ := X
  obtain ⟨g', e, c, M'⟩ := mr_st M 5 (c := 39) (k := (j : Int)) rfl (by omega) (by omega) x (by omega) (show (j : Int) < (42 : Nat) by omega)
  rw [Int.toNat_natCast] at M'
  refine ⟨g', by rw [hkj]; exact e, c, Mg_5 _ _, M', fun q hq => by rw [upI_n _ _ (by omega)]; exact Z q hq, ?_⟩
  cases S with
  | ok vp => exact R
  | error e => exact R
theorem q_num (hF : 1000 ≤ F) (hn : 0 ≤ n ∧ n ≤ 120) (ht : ∀ k : Nat, (k : Int) < n → 0 ≤ tp k ∧ tp k ≤ 255) (li hi' k : Int32) {lo hi : Int} {j : Nat} (h1 : li = zI lo) (h2 : hi' = zI hi) (hk : k = zI (j : Int)) (hlo : 0 ≤ lo ∧ lo ≤ hi) (hhi : hi ≤ 100) (hj : j < 42) (X : MM g tp n Q S) : ∃ x g1 g' Q', f_M_number F (some 34) li hi' (0 : Int32) g = some (x, g1) ∧ ast g1 (some 39) 0 k x = some g' ∧ Ch 34 47 g g' ∧ Mg Q Q' ∧ MM g' tp n Q' (sN (Lt tp n) j lo hi S) := by
  obtain ⟨M, t1, t2, Z, R, V⟩ := X
  obtain ⟨x, g1, Q1, e1, c1, M1, a1, b1, R1, hx⟩ := m_num (F := F) hF hn ht M t1 t2 R hlo hhi j
  have Y : MM g1 tp n Q1 (sN (Lt tp n) j lo hi S) ∨ True := Or.inr trivial
  have u1 : Q1 1 = tp := (a1.1 1 (by decide) (by decide)).trans t1
  have u2 : Q1 0 2 = n := (a1.2 2 (by omega)).trans t2
  obtain ⟨g2, e2, c2, M2⟩ := mr_st M1 5 (c := 39) (k := (j : Int)) rfl (by omega) (by omega) x (by omega) (show (j : Int) < (42 : Nat) by omega)
  rw [Int.toNat_natCast] at M2
  refine ⟨zI x, g1, g2, upR Q1 5 (upI (Q1 5) j x), by rw [h1, h2]; exact e1, by rw [hk]; exact e2, c1.tr c2, a1.tr (Mg_5 _ _), M2, u1, u2, ?_, ?_, fun v' q' hq => ?_⟩
  · intro q hq
    show upI (Q1 5) j x q = 0
    rw [upI_n _ _ (by omega), b1]
    exact Z q hq
  · cases hS : sN (Lt tp n) j lo hi S with
    | ok vp => rw [hS] at R1; exact R1
    | error e => rw [hS] at R1; exact R1
  · obtain ⟨v, p, z1, -⟩ := sN_inv hq
    have := hx v p v' q' z1 hq
    show upI (Q1 5) j x = v'
    rw [this, b1, V v p z1]
theorem dF_err {L : Nat → Int} {S : PS} {e : Int × Int} {i : Nat} (h : dF L S i = .error e) : ∀ k, dF L S (i + k) = .error e := by
  intro k
  induction k with
  | zero => exact h
  | succ k ih =>
    show sD L (i + k) (dF L S (i + k)) = _
    rw [ih]
    rfl
theorem q_77 (hF : 1000 ≤ F) (hn : 0 ≤ n ∧ n ≤ 120) (ht : ∀ k : Nat, (k : Int) < n → 0 ≤ tp k ∧ tp k ≤ 255) : ∀ (d i fu : Nat) (g : MH) (Q : Nat → Nat → Int), i + d = 24 → d < fu → MM g tp n Q (dF (Lt tp n) S i) → ∃ g' Q', b_M_readsHead_77 F fu (some 34) (zI (i : Int)) g = b_M_readsHead_147 F (some 34) g' ∧ Ch 34 47 g g' ∧ Mg Q Q' ∧ MM g' tp n Q' (dF (Lt tp n) S 24) := by
  intro d
  induction d with
  | zero =>
    intro i fu g Q hi hf X
    obtain ⟨fu, rfl⟩ : ∃ q, fu = q + 1 := ⟨fu - 1, by omega⟩
    have h24 : i = 24 := by omega
    subst h24
    refine ⟨g, Q, ?_, Ch_0 _ _ g, Mg_0 Q, X⟩
    unfold b_M_readsHead_77
    rw [if_pos (by decide)]
  | succ d ih =>
    intro i fu g Q hi hf X
    obtain ⟨fu, rfl⟩ : ∃ q, fu = q + 1 := ⟨fu - 1, by omega⟩
    have x24 : (24 : Int32) ≤ zI (i : Int) ↔ 24 ≤ (i : Int) := zI_le (a := 24) (by omega) (by omega) (by omega) (by omega)
    cases hS : dF (Lt tp n) S i with
    | error e =>
      rw [hS] at X
      refine ⟨g, Q, ?_, Ch_0 _ _ g, Mg_0 Q, ?_⟩
      · unfold b_M_readsHead_77
        simp only [x24]
        rw [if_neg (by omega), X.on, m_wE X.1 X.2.2.2.2.1, bd, if_pos rfl]
      · have := dF_err hS (24 - i)
        rw [show i + (24 - i) = 24 by omega] at this
        rw [this]
        exact X
    | ok vp =>
      obtain ⟨v, p⟩ := vp
      rw [hS] at X
      have hwell := m_wO X.1 X.2.2.2.2.1
      obtain ⟨g1, e1, c1, a1, M1, Z1, R1⟩ := mm_st X (k := (18 : Int32) + zI (i : Int)) (j := 18 + i) (by rw [l18, zI_add]; rfl) (by omega) (Q 0 6 - 97)
      obtain ⟨M, t1, t2, Z, R, V⟩ := X
      obtain ⟨r1, r2, r3, A⟩ := id R
      have hl := Lt_r ht p
      have htok := A.tok
      have m6 : gfi g1 (some 34) [11] 6 = some (zI (Q 0 6)) := by have := mf6 M1; exact this
      have m4 : gfi g1 (some 34) [11] 4 = some (zI (Q 0 4)) := by have := mf4 M1; exact this
      have x1 : zI (Q 0 4) = (1 : Int32) ↔ Q 0 4 = 1 := zI_eq (b := 1) (by omega) (by omega) (by omega) (by omega)
      have hst : dF (Lt tp n) S (i + 1) = sD (Lt tp n) i (.ok (v, p)) := by
        show sD (Lt tp n) i (dF (Lt tp n) S i) = _
        rw [hS]
      have pre : b_M_readsHead_77 F (fu + 1) (some 34) (zI (i : Int)) g = (if Q 0 4 = 1 then
          if (f_M_in (zI (Q 0 6)) (97 : Int32) (106 : Int32)) = 0 then
            b_M_readsHead_137 F (b_M_readsHead_77 F fu) (some 34) (zI (i : Int)) (some 34) (1 : Int32) g1
          else
            b_M_readsHead_138 F (b_M_readsHead_77 F fu) (some 34) (zI (i : Int)) (some 34) (1 : Int32) (zI (Q 0 6)) g1
        else
          b_M_readsHead_137 F (b_M_readsHead_77 F fu) (some 34) (zI (i : Int)) (some 34) (1 : Int32) g1) := by
        conv => lhs; unfold b_M_readsHead_77
        simp only [x24]
        rw [if_neg (by omega), mr_on M, hwell, bd, if_neg (by decide), mg14 M, bd, mf6 M, bd, show (97 : Int32) = zI 97 from rfl, zI_sub, e1, bd, m4, bd]
        simp only [x1]
        rw [m6, bd, bd]
      by_cases ok : 97 ≤ Lt tp n p ∧ Lt tp n p ≤ 106
      · have hnf : ¬ isF (Lt tp n p) = true := fun z => by
          have := (isF_iff _).mp z
          omega
        obtain ⟨q1, q2, q3⟩ := A.2.2 (by omega) hnf
        have t : Q 0 4 = 1 := by rw [q3, if_pos (by omega)]
        have X1 : MM g1 tp n (upR Q 5 (upI (Q 5) (18 + i) (Q 0 6 - 97))) (.ok (upI v (18 + i) (Lt tp n p - 97), p)) := by
          refine ⟨M1, t1, t2, Z1, R1, fun u q z => ?_⟩
          cases z
          show upI (Q 5) (18 + i) (Q 0 6 - 97) = _
          rw [V v p rfl, q2]
        obtain ⟨g2, Q2, e2, c2, a2, X2⟩ := q_let (F := F) hF hn ht (1 : Int32) (zI (Lt tp n p)) (kd := 1) (c := Lt tp n p) rfl rfl (by omega) X1
        have hst2 : sL (Lt tp n) (Lt tp n p) (.ok (upI v (18 + i) (Lt tp n p - 97), p)) = dF (Lt tp n) S (i + 1) := by
          rw [hst, sD_ok ok]
          exact if_pos rfl
        rw [hst2] at X2
        obtain ⟨g3, Q3, e3, c3, a3, X3⟩ := ih (i + 1) fu g2 Q2 (by omega) (by omega) X2
        refine ⟨g3, Q3, ?_, c1.tr (c2.tr c3), a1.tr (a2.tr a3), X3⟩
        have xin : f_M_in (zI (Lt tp n p)) (97 : Int32) (106 : Int32) = 0 ↔ ¬ (97 ≤ Lt tp n p ∧ Lt tp n p ≤ 106) := by
          rw [show f_M_in (zI (Lt tp n p)) (97 : Int32) (106 : Int32) = if 97 ≤ Lt tp n p ∧ Lt tp n p ≤ 106 then 1 else 0 from s_M_in (a := 97) (b := 106) (by omega) (by omega) (by omega) (by omega) (by omega) (by omega), ite_01]
        rw [pre, if_pos t, q2]
        simp only [xin]
        rw [if_neg (fun z => z ok)]
        unfold b_M_readsHead_138
        rw [X1.on, e2, bd, l1, zI_add]
        exact e3
      · -- no depth
        have hfail : ∃ g' Q', b_M_readsHead_137 F (b_M_readsHead_77 F fu) (some 34) (zI (i : Int)) (some 34) (1 : Int32) g1 = b_M_readsHead_77 F fu (some 34) (zI ((i + 1 : Nat) : Int)) g' ∧ Ch 34 47 g1 g' ∧ Mg (upR Q 5 (upI (Q 5) (18 + i) (Q 0 6 - 97))) Q' ∧ MM g' tp n Q' (.error (1, (p : Int))) := by
          obtain ⟨g2, Q2, e2, c2, M2, a2, b2', R2⟩ := m_fail0 (tp := tp) (n := n) M1 r1 r2 (by omega) (k := 1) (by omega)
          have hw1 : f_M_wants F (some 34) (1 : Int32) (-1 : Int32) g1 = some g2 := by
            have m6' : Q 0 4 = 1 → ¬ zI (Q 0 6) = (-1 : Int32) := by
              intro t
              have hnn : 0 ≤ Lt tp n p := by
                by_cases z : 0 ≤ Lt tp n p
                · exact z
                · have := (A.1 (by omega)).1
                  omega
              have hnf : ¬ isF (Lt tp n p) = true := fun z => by
                have hd := dcN_le (Lt tp n) p
                by_cases z3 : dcN (Lt tp n) p ≤ 2
                · have := ((A.2.1 z).1 z3).1
                  omega
                · have := (A.2.1 z).2 (by omega)
                  omega
              rw [(A.2.2 hnn hnf).2.1, show zI (Lt tp n p) = (-1 : Int32) ↔ Lt tp n p = -1 from zI_eq (b := -1) (by omega) (by omega) (by omega) (by omega)]
              omega
            have e16 : b_M_wants_16 F (some 34) g1 = some g2 := by
              unfold b_M_wants_16 b_M_wants_21
              rw [mr_on M1, l1, e2, bd, mr_on M2, m_wE M2 R2, bd, if_pos rfl]
            unfold f_M_wants
            rw [m4, bd]
            simp only [x1]
            by_cases t : Q 0 4 = 1
            · rw [if_pos t, m6, bd, if_neg (m6' t), e16]
            · rw [if_neg t, e16]
          refine ⟨g2, Q2, ?_, c2, a2, M2, (a2.1 1 (by decide) (by decide)).trans t1, (a2.2 2 (by omega)).trans t2, by rw [b2']; exact Z1, R2, fun u q z => by cases z⟩
          unfold b_M_readsHead_137 b_M_readsHead_138
          rw [mr_on M1, hw1, bd, l1, zI_add]
          rfl
        obtain ⟨g2, Q2, e2, c2, a2, X2⟩ := hfail
        have hst2 : dF (Lt tp n) S (i + 1) = .error (1, (p : Int)) := by rw [hst, sD_no ok]
        rw [← hst2] at X2
        obtain ⟨g3, Q3, e3, c3, a3, X3⟩ := ih (i + 1) fu g2 Q2 (by omega) (by omega) X2
        refine ⟨g3, Q3, ?_, c1.tr (c2.tr c3), a1.tr (a2.tr a3), X3⟩
        rw [pre]
        by_cases t : Q 0 4 = 1
        · have hnn : 0 ≤ Lt tp n p := by
            by_cases z : 0 ≤ Lt tp n p
            · exact z
            · have := (A.1 (by omega)).1
              omega
          have hnf : ¬ isF (Lt tp n p) = true := fun z => by
            have hd := dcN_le (Lt tp n) p
            by_cases z3 : dcN (Lt tp n) p ≤ 2
            · have := ((A.2.1 z).1 z3).1
              omega
            · have := (A.2.1 z).2 (by omega)
              omega
          have q2 := (A.2.2 hnn hnf).2.1
          have xin : f_M_in (zI (Lt tp n p)) (97 : Int32) (106 : Int32) = 0 ↔ ¬ (97 ≤ Lt tp n p ∧ Lt tp n p ≤ 106) := by
            rw [show f_M_in (zI (Lt tp n p)) (97 : Int32) (106 : Int32) = if 97 ≤ Lt tp n p ∧ Lt tp n p ≤ 106 then 1 else 0 from s_M_in (a := 97) (b := 106) (by omega) (by omega) (by omega) (by omega) (by omega) (by omega), ite_01]
          rw [if_pos t, q2]
          simp only [xin]
          rw [if_pos ok, e2]
          exact e3
        · rw [if_neg t, e2]
          exact e3
theorem q_head (hF : 1000 ≤ F) (hn : 0 ≤ n ∧ n ≤ 120) (ht : ∀ k : Nat, (k : Int) < n → 0 ≤ tp k ∧ tp k ≤ 255) (X : MM g tp n Q S) : ∃ g' Q', f_M_readsHead F (some 34) g = some g' ∧ Ch 34 47 g g' ∧ Mg Q Q' ∧ MM g' tp n Q' (pHead (Lt tp n) S) := by
  obtain ⟨g1, Q1, e1, c1, a1, X1⟩ := q_let (F := F) hF hn ht 1 119 (kd := 1) (c := 119) rfl rfl (by omega) X
  obtain ⟨x2, y2, g2, Q2, e2, s2, c2, a2, X2⟩ := q_num (F := F) hF hn ht 0 8 1 (lo := 0) (hi := 8) (j := 1) rfl rfl rfl (by omega) (by omega) (by omega) X1
  obtain ⟨g3, Q3, e3, c3, a3, X3⟩ := q_let (F := F) hF hn ht 3 44 (kd := 3) (c := 44) rfl rfl (by omega) X2
  obtain ⟨x4, y4, g4, Q4, e4, s4, c4, a4, X4⟩ := q_num (F := F) hF hn ht 1 5 2 (lo := 1) (hi := 5) (j := 2) rfl rfl rfl (by omega) (by omega) (by omega) X3
  obtain ⟨g5, Q5, e5, c5, a5, X5⟩ := q_let (F := F) hF hn ht 3 44 (kd := 3) (c := 44) rfl rfl (by omega) X4
  obtain ⟨x6, y6, g6, Q6, e6, s6, c6, a6, X6⟩ := q_num (F := F) hF hn ht 0 3 3 (lo := 0) (hi := 3) (j := 3) rfl rfl rfl (by omega) (by omega) (by omega) X5
  obtain ⟨g7, Q7, e7, c7, a7, X7⟩ := q_let (F := F) hF hn ht 3 59 (kd := 3) (c := 59) rfl rfl (by omega) X6
  obtain ⟨g8, Q8, e8, c8, a8, X8⟩ := q_let (F := F) hF hn ht 1 100 (kd := 1) (c := 100) rfl rfl (by omega) X7
  obtain ⟨g9, Q9, e9, c9, a9, X9⟩ := q_77 (F := F) hF hn ht 24 0 F g8 Q8 rfl (by omega) X8
  obtain ⟨g10, Q10, e10, c10, a10, X10⟩ := q_let (F := F) hF hn ht 3 59 (kd := 3) (c := 59) rfl rfl (by omega) X9
  obtain ⟨g11, Q11, e11, c11, a11, X11⟩ := q_let (F := F) hF hn ht 1 98 (kd := 1) (c := 98) rfl rfl (by omega) X10
  obtain ⟨x12, y12, g12, Q12, e12, s12, c12, a12, X12⟩ := q_num (F := F) hF hn ht 0 23 14 (lo := 0) (hi := 23) (j := 14) rfl rfl rfl (by omega) (by omega) (by omega) X11
  obtain ⟨g13, Q13, e13, c13, a13, X13⟩ := q_let (F := F) hF hn ht 3 44 (kd := 3) (c := 44) rfl rfl (by omega) X12
  obtain ⟨x14, y14, g14, Q14, e14, s14, c14, a14, X14⟩ := q_num (F := F) hF hn ht 0 7 15 (lo := 0) (hi := 7) (j := 15) rfl rfl rfl (by omega) (by omega) (by omega) X13
  obtain ⟨g15, Q15, e15, c15, a15, X15⟩ := q_let (F := F) hF hn ht 3 59 (kd := 3) (c := 59) rfl rfl (by omega) X14
  refine ⟨g15, Q15, ?_, c1.tr (c2.tr (c3.tr (c4.tr (c5.tr (c6.tr (c7.tr (c8.tr (c9.tr (c10.tr (c11.tr (c12.tr (c13.tr (c14.tr c15))))))))))))), a1.tr (a2.tr (a3.tr (a4.tr (a5.tr (a6.tr (a7.tr (a8.tr (a9.tr (a10.tr (a11.tr (a12.tr (a13.tr (a14.tr a15))))))))))))), X15⟩
  have e9' : b_M_readsHead_77 F F (some 34) (0 : Int32) g8 = b_M_readsHead_147 F (some 34) g9 := e9
  unfold f_M_readsHead
  rw [X.on, e1, bd, X1.d, bd, X1.on, e2, bd, s2, bd, X2.on, e3, bd, X3.d, bd, X3.on, e4, bd, s4, bd, X4.on, e5, bd, X5.d, bd, X5.on, e6, bd, s6, bd, X6.on, e7, bd, X7.on, e8, bd, e9']
  unfold b_M_readsHead_147
  rw [X9.on, e10, bd, X10.on, e11, bd, X11.d, bd, X11.on, e12, bd, s12, bd, X12.on, e13, bd, X13.d, bd, X13.on, e14, bd, s14, bd, X14.on, e15]
  rfl
end
