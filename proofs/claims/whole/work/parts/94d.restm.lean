/-! ===== what is told, the reference: the rest ===== -/
def mapS (j : Nat) (x : Int) (S : PS) : PS := match S with
  | .ok (v, p) => .ok (upI v j x, p)
  | .error e => .error e
theorem adv_num {L : Nat → Int} {p : Nat} {tok val nxt : Int} (A : Adv L p tok val nxt) : ((dcN L p = 1 ∨ dcN L p = 2) ↔ tok = 2) ∧ (tok = 2 → val = vlN L p ∧ nxt = p + dcN L p) := by
  have hd3 := dcN_le L p
  have hdc : (dcN L p = 1 ∨ dcN L p = 2) ↔ tok = 2 := by
    by_cases z1 : L p < 0
    · have t := (A.1 z1).1
      have d0 : dcN L p = 0 := by
        unfold dcN
        rw [if_neg (fun z => by have := (isF_iff _).mp z; omega)]
      omega
    · by_cases z2 : isF (L p) = true
      · have d0 : dcN L p ≠ 0 := by
          unfold dcN
          rw [if_pos z2]
          (repeat' split) <;> omega
        by_cases z3 : dcN L p ≤ 2
        · have := ((A.2.1 z2).1 z3).1
          omega
        · have := (A.2.1 z2).2 (by omega)
          omega
      · have t := (A.2.2 (by omega) z2).2.2
        have d0 : dcN L p = 0 := by
          unfold dcN
          rw [if_neg z2]
        have : tok ≠ 2 := by
          rw [t]
          split <;> (try split) <;> omega
        omega
  refine ⟨hdc, fun t => ?_⟩
  have d := hdc.mpr t
  have z2 : isF (L p) = true := by
    by_cases z : isF (L p) = true
    · exact z
    · unfold dcN at d
      rw [if_neg z] at d
      omega
  exact ((A.2.1 z2).1 (by omega)).2
theorem adv_let {L : Nat → Int} {p : Nat} {tok val nxt : Int} (A : Adv L p tok val nxt) : ((97 ≤ L p ∧ L p ≤ 122) ↔ tok = 1) ∧ (tok = 1 → val = L p) ∧ (tok = 0 ↔ L p < 0) := by
  have hd3 := dcN_le L p
  by_cases z1 : L p < 0
  · have t := (A.1 z1).1
    omega
  · by_cases z2 : isF (L p) = true
    · have e := (isF_iff _).mp z2
      by_cases z3 : dcN L p ≤ 2
      · have := ((A.2.1 z2).1 z3).1
        omega
      · have := (A.2.1 z2).2 (by omega)
        omega
    · obtain ⟨q1, q2, q3⟩ := A.2.2 (by omega) z2
      by_cases z3 : 97 ≤ L p ∧ L p ≤ 122
      · rw [if_pos z3] at q3
        omega
      · rw [if_neg z3] at q3
        have : tok = 3 ∨ tok = 4 := by
          rw [q3]
          split <;> omega
        omega
section
variable {F : Nat} {tp : Nat → Int} {n : Int} {g : MH} {Q : Nat → Nat → Int} {S : PS}
theorem mm_ld (X : MM g tp n Q S) {k : Int32} {j : Nat} (hkj : k = zI (j : Int)) (hj : j < 42) : ald g (some 39) 0 k = some (zI (Q 5 j)) := by
  have A : g.1 39 = aZ 42 (Q 5) := X.1.2 5 (by omega) (by omega)
  rw [hkj, aldN A hj (by omega)]
theorem mm_st2 (X : MM g tp n Q S) {k : Int32} {j : Nat} (hkj : k = zI (j : Int)) (hj : j < 42) (x : Int) : ∃ g', ast g (some 39) 0 k (zI x) = some g' ∧ Ch 34 47 g g' ∧ Mg Q (upR Q 5 (upI (Q 5) j x)) ∧ MM g' tp n (upR Q 5 (upI (Q 5) j x)) (mapS j x S) := by
  obtain ⟨g', e, c, a, M', Z', R'⟩ := mm_st X hkj hj x
  refine ⟨g', e, c, a, M', X.2.1, X.2.2.1, Z', ?_, fun v' q' hq => ?_⟩
  · cases S with
    | ok vp => exact R'
    | error e => exact R'
  · cases S with
    | error e => cases hq
    | ok vp =>
      obtain ⟨v, p⟩ := vp
      have h1 : upI v j x = v' := congrArg Prod.fst (Except.ok.inj hq)
      show upI (Q 5) j x = v'
      rw [X.2.2.2.2.2 v p rfl, h1]
theorem q_258 (hF : 1000 ≤ F) (hn : 0 ≤ n ∧ n ≤ 120) (ht : ∀ k : Nat, (k : Int) < n → 0 ≤ tp k ∧ tp k ≤ 255) (k0 : (Option Nat) → MH → (Option MH)) (X : MM g tp n Q S) : ∃ g' Q', b_M_readsRest_258 F k0 (some 34) g = k0 (some 34) g' ∧ Ch 34 47 g g' ∧ Mg Q Q' ∧ MM g' tp n Q' (sL (Lt tp n) 59 S) := by
  obtain ⟨g1, Q1, e1, c1, a1, X1⟩ := q_let (F := F) hF hn ht 3 59 (kd := 3) (c := 59) rfl rfl (by omega) X
  refine ⟨g1, Q1, ?_, c1, a1, X1⟩
  unfold b_M_readsRest_258
  rw [X.on, e1, bd]
def tl130 (F : Nat) (k0 : (Option Nat) → MH → (Option MH)) (x1 : Int32) (g : MH) : Option MH :=
  Option.bind (gfr g (some 34) [11] 14) fun x3 =>
  Option.bind (ald g x3 0 (13 : Int32)) fun x5 =>
  Option.bind (onc g (some 34) 11 (f_M_isWell (some 34) g)) fun x7 =>
  if x7 = 0 then
    b_M_readsRest_162 F k0 (some 34) x3 (13 : Int32) x5 (0 : Int32) g
  else
    b_M_readsRest_162 F k0 (some 34) x3 (13 : Int32) x5 ((1 : Int32) <<< (x1 &&& 31)) g
theorem q_tailE (hF : 1000 ≤ F) (hn : 0 ≤ n ∧ n ≤ 120) (ht : ∀ k : Nat, (k : Int) < n → 0 ≤ tp k ∧ tp k ≤ 255) (k0 : (Option Nat) → MH → (Option MH)) {e : Int × Int} (X : MM g tp n Q (.error e)) : ∃ g' Q', (∀ x1, tl130 F k0 x1 g = k0 (some 34) g') ∧ Ch 34 47 g g' ∧ Mg Q Q' ∧ MM g' tp n Q' (.error e) := by
  obtain ⟨y, hy⟩ : ∃ y : Int, zI (Q 5 13) ||| (0 : Int32) = zI y := ⟨_, (zI_of _).symm⟩
  obtain ⟨g1, e1, c1, a1, X1⟩ := mm_st2 X (k := 13) (j := 13) rfl (by omega) y
  obtain ⟨g2, Q2, e2, c2, a2, X2⟩ := q_258 (F := F) hF hn ht k0 X1
  refine ⟨g2, Q2, fun x1 => ?_, c1.tr c2, a1.tr a2, X2⟩
  unfold tl130 b_M_readsRest_162
  rw [X.d, bd, mm_ld X (k := 13) (j := 13) rfl (by omega), bd, X.on, m_wE X.1 X.2.2.2.2.1, bd, if_pos rfl, hy, e1, bd, e2]
theorem q_tailO (hF : 1000 ≤ F) (hn : 0 ≤ n ∧ n ≤ 120) (ht : ∀ k : Nat, (k : Int) < n → 0 ≤ tp k ∧ tp k ≤ 255) (k0 : (Option Nat) → MH → (Option MH)) {v : Nat → Int} {q : Nat} (X : MM g tp n Q (.ok (v, q))) (h13 : 0 ≤ v 13 ∧ v 13 < 16777216) {x : Nat} (hx : x < 24) : ∃ g' Q', tl130 F k0 (zI (x : Int)) g = k0 (some 34) g' ∧ Ch 34 47 g g' ∧ Mg Q Q' ∧ MM g' tp n Q' (sL (Lt tp n) 59 (.ok (upI v 13 (((v 13).toNat ||| 2 ^ x : Nat) : Int), q))) := by
  have hv : Q 5 = v := X.2.2.2.2.2 v q rfl
  have hy : zI (Q 5 13) ||| ((1 : Int32) <<< (zI (x : Int) &&& 31)) = zI (((v 13).toNat ||| 2 ^ x : Nat) : Int) := by
    rw [hv, oneN hx]
    obtain ⟨m13, hm⟩ : ∃ m13 : Nat, v 13 = m13 := ⟨(v 13).toNat, by omega⟩
    have h2 : 2 ^ x < 2 ^ 24 := Nat.pow_lt_pow_right (by omega) hx
    rw [hm, zN, nI_or (by omega) (by omega), Int.toNat_natCast, zN]
  obtain ⟨g1, e1, c1, a1, X1⟩ := mm_st2 X (k := 13) (j := 13) rfl (by omega) (((v 13).toNat ||| 2 ^ x : Nat) : Int)
  obtain ⟨g2, Q2, e2, c2, a2, X2⟩ := q_258 (F := F) hF hn ht k0 X1
  refine ⟨g2, Q2, ?_, c1.tr c2, a1.tr a2, X2⟩
  unfold tl130 b_M_readsRest_162
  rw [X.d, bd, mm_ld X (k := 13) (j := 13) rfl (by omega), bd, X.on, m_wO X.1 X.2.2.2.2.1, bd, if_neg (by decide), hy, e1, bd, e2]
theorem e130 (k0 : (Option Nat) → MH → (Option MH)) (s0 : Int32) (X : MM g tp n Q S) {x : Int32} {g1 : MH} (e : f_M_number F (some 34) (0 : Int32) (23 : Int32) s0 g = some (x, g1)) : b_M_readsRest_130 F k0 (some 34) s0 g = tl130 F k0 x g1 := by
  unfold b_M_readsRest_130 tl130
  rw [X.on, e, bd]
/-- where it has failed already, a moored one or a hand is gone over -/
theorem q_79E (hF : 1000 ≤ F) (hn : 0 ≤ n ∧ n ≤ 120) (ht : ∀ k : Nat, (k : Int) < n → 0 ≤ tp k ∧ tp k ≤ 255) (k0 : (Option Nat) → MH → (Option MH)) {e : Int × Int} (X : MM g tp n Q (.error e)) : ∃ g' Q', b_M_readsRest_79 F k0 (some 34) g = k0 (some 34) g' ∧ Ch 34 47 g g' ∧ Mg Q Q' ∧ MM g' tp n Q' (.error e) := by
  obtain ⟨g1, Q1, e1, c1, a1, X1⟩ := q_tailE (F := F) hF hn ht k0 X
  have hA : ∀ s0, b_M_readsRest_130 F k0 (some 34) s0 g = k0 (some 34) g1 := fun s0 => by
    rw [e130 k0 s0 X (m_numE X.1 X.2.2.2.2.1 (0 : Int32) (23 : Int32) s0), e1]
  refine ⟨g1, Q1, ?_, c1, a1, X1⟩
  unfold b_M_readsRest_79 b_M_readsRest_129
  simp only [X.on, m_letE X.1 X.2.2.2.2.1, bd, mf4 X.1, mf6 X.1, X.d, mm_ld X (k := 13) (j := 13) rfl (by omega), hA, ite_self]
theorem q_79O (hF : 1000 ≤ F) (hn : 0 ≤ n ∧ n ≤ 120) (ht : ∀ k : Nat, (k : Int) < n → 0 ≤ tp k ∧ tp k ≤ 255) (k0 : (Option Nat) → MH → (Option MH)) {v : Nat → Int} {p : Nat} (X : MM g tp n Q (.ok (v, p))) (W : WP v) (h109 : Lt tp n p = 109) : ∃ g' Q', b_M_readsRest_79 F k0 (some 34) g = k0 (some 34) g' ∧ Ch 34 47 g g' ∧ Mg Q Q' ∧ MM g' tp n Q' (moB (Lt tp n) v p) := by
  have w13 := W.1.2.2.2.2.2.1
  obtain ⟨g1, Q1, e1, c1, a1, X1⟩ := q_let (F := F) hF hn ht 1 109 (kd := 1) (c := 109) rfl rfl (by omega) X
  have es : sL (Lt tp n) 109 (.ok (v, p)) = .ok (v, p + 1) := if_pos h109
  rw [es] at X1
  obtain ⟨M1, t1, t2, Z1, R1, V1⟩ := id X1
  obtain ⟨r1, r2, r3, A⟩ := id R1
  have htok := A.tok
  obtain ⟨n1, n2⟩ := adv_num A
  have hvr := vlN_r ht (p + 1)
  have hv1 : Q1 5 = v := V1 v (p + 1) rfl
  obtain ⟨m13, hm⟩ : ∃ m13 : Nat, v 13 = m13 := ⟨(v 13).toNat, by omega⟩
  have x2 : zI (Q1 0 4) = (2 : Int32) ↔ Q1 0 4 = 2 := zI_eq (b := 2) (by omega) (by omega) (by omega) (by omega)
  have pre : b_M_readsRest_79 F k0 (some 34) g = if Q1 0 4 = 2 then (if (f_M_in (zI (Q1 0 6)) (0 : Int32) (23 : Int32)) = 0 then b_M_readsRest_130 F k0 (some 34) (0 : Int32) g1 else if ((zI (v 13) >>> (zI (Q1 0 6) &&& 31)) &&& (1 : Int32)) = (1 : Int32) then b_M_readsRest_130 F k0 (some 34) (1 : Int32) g1 else b_M_readsRest_130 F k0 (some 34) (0 : Int32) g1) else b_M_readsRest_130 F k0 (some 34) (0 : Int32) g1 := by
    unfold b_M_readsRest_79 b_M_readsRest_129
    rw [X.on, e1, bd, mf4 M1, bd]
    simp only [x2]
    rw [mf6 M1, bd, X1.d, bd, mm_ld X1 (k := 13) (j := 13) rfl (by omega), bd, bd, hv1]
  -- a number read as it is
  have plain : (∀ z, okN (Lt tp n) 0 23 (p + 1) → vlN (Lt tp n) (p + 1) = (z : Nat) → btN m13 z ≠ 1) → ∃ g' Q', b_M_readsRest_130 F k0 (some 34) (0 : Int32) g1 = k0 (some 34) g' ∧ Ch 34 47 g1 g' ∧ Mg Q1 Q' ∧ MM g' tp n Q' (moB (Lt tp n) v p) := by
    intro hno
    obtain ⟨x, g2, Q2, e2, c2, M2, a2, b2', R2, hx⟩ := m_num (F := F) hF hn ht M1 t1 t2 R1 (lo := 0) (hi := 23) (by omega) (by omega) 13
    have e2' : f_M_number F (some 34) (0 : Int32) (23 : Int32) (0 : Int32) g1 = some (zI x, g2) := e2
    have u1 : Q2 1 = tp := (a2.1 1 (by decide) (by decide)).trans t1
    have u2 : Q2 0 2 = n := (a2.2 2 (by omega)).trans t2
    unfold moB
    cases hN : sN (Lt tp n) 13 0 23 (.ok (v, p + 1)) with
    | error e =>
      rw [hN] at R2
      have X2 : MM g2 tp n Q2 (.error e) := ⟨M2, u1, u2, by rw [b2']; exact Z1, R2, fun u q z => by cases z⟩
      obtain ⟨g3, Q3, e3, c3, a3, X3⟩ := q_tailE (F := F) hF hn ht k0 X2
      exact ⟨g3, Q3, by rw [e130 k0 0 X1 e2', e3], c2.tr c3, a2.tr a3, X3⟩
    | ok vq =>
      obtain ⟨v', q⟩ := vq
      rw [hN] at R2
      have hv := hx v (p + 1) v' q rfl hN
      obtain ⟨v0, p0, z1, ok, z2, -⟩ := sN_inv hN
      cases z1
      have h13 : v' 13 = x := by rw [hv, upI_s]
      have hxv : x = vlN (Lt tp n) (p + 1) := by rw [← h13, z2, upI_s]
      obtain ⟨y, hy⟩ : ∃ y : Nat, x = y := ⟨x.toNat, by have := ok.2; omega⟩
      have hy24 : y < 24 := by have := ok.2; omega
      have X2 : MM g2 tp n Q2 (.ok (v, q)) := ⟨M2, u1, u2, by rw [b2']; exact Z1, R2, fun u r z => by cases z; rw [b2']; exact hv1⟩
      obtain ⟨g3, Q3, e3, c3, a3, X3⟩ := q_tailO (F := F) hF hn ht k0 X2 w13 hy24
      refine ⟨g3, Q3, by rw [e130 k0 0 X1 e2', hy, e3], c2.tr c3, a2.tr a3, ?_⟩
      dsimp only
      rw [h13, hy, hm, Int.toNat_natCast, Int.toNat_natCast, if_neg (hno y ok (by omega))]
      rw [hm, Int.toNat_natCast] at X3
      exact X3
  by_cases t : Q1 0 4 = 2
  · obtain ⟨v1, v2⟩ := n2 t
    have xin : f_M_in (zI (vlN (Lt tp n) (p + 1))) (0 : Int32) (23 : Int32) = 0 ↔ ¬ (0 ≤ vlN (Lt tp n) (p + 1) ∧ vlN (Lt tp n) (p + 1) ≤ 23) := by
      rw [show f_M_in (zI (vlN (Lt tp n) (p + 1))) (0 : Int32) (23 : Int32) = if 0 ≤ vlN (Lt tp n) (p + 1) ∧ vlN (Lt tp n) (p + 1) ≤ 23 then 1 else 0 from s_M_in (a := 0) (b := 23) (by omega) (by omega) (by omega) (by omega) (by omega) (by omega), ite_01]
    by_cases ci : 0 ≤ vlN (Lt tp n) (p + 1) ∧ vlN (Lt tp n) (p + 1) ≤ 23
    · obtain ⟨y, hy⟩ : ∃ y : Nat, vlN (Lt tp n) (p + 1) = y := ⟨(vlN (Lt tp n) (p + 1)).toNat, by omega⟩
      have hy24 : y < 24 := by omega
      have hbit : (zI (v 13) >>> (zI (y : Int) &&& 31)) &&& (1 : Int32) = zI (btN m13 y : Nat) := by
        rw [hm, zN m13, bitN (by omega) hy24, ← zN]
      have br := btN_r m13 y
      have xb : zI (btN m13 y : Nat) = (1 : Int32) ↔ ((btN m13 y : Nat) : Int) = 1 := zI_eq (b := 1) (by omega) (by omega) (by omega) (by omega)
      have ok : okN (Lt tp n) 0 23 (p + 1) := ⟨n1.mpr t, ci⟩
      by_cases cb : btN m13 y = 1
      · -- told again
        obtain ⟨g2, Q2, e2, c2, M2, a2, b2', R2⟩ := m_fail0 (tp := tp) (n := n) M1 r1 r2 (by omega) (k := 2) (by omega)
        have X2 : MM g2 tp n Q2 (.error (2, ((p + 1 : Nat) : Int))) := ⟨M2, (a2.1 1 (by decide) (by decide)).trans t1, (a2.2 2 (by omega)).trans t2, by rw [b2']; exact Z1, R2, fun u q z => by cases z⟩
        have en : f_M_number F (some 34) (0 : Int32) (23 : Int32) (1 : Int32) g1 = some (0, g2) := by
          unfold f_M_number b_M_number_32 b_M_number_37 b_M_number_52
          rw [mf4 M1, bd]
          simp only [x2]
          rw [if_pos t, mf6 M1, bd, v1]
          simp only [xin]
          rw [if_neg (fun z => z ci), if_neg (by decide), mr_on M1, show (2 : Int32) = zI 2 from rfl, e2, bd, mr_on M2, m_wE M2 R2, bd, if_pos rfl, mr_on M2, bd, if_pos rfl]
        obtain ⟨g3, Q3, e3, c3, a3, X3⟩ := q_tailE (F := F) hF hn ht k0 X2
        refine ⟨g3, Q3, ?_, c1.tr (c2.tr c3), a1.tr (a2.tr a3), ?_⟩
        · rw [pre, if_pos t, v1]
          simp only [xin]
          rw [if_neg (fun z => z ci), hy, hbit]
          simp only [xb]
          rw [if_pos (by omega), e130 k0 1 X1 en, e3]
        · unfold moB
          rw [sN_ok ok]
          dsimp only
          rw [upI_s, hy, hm, Int.toNat_natCast, Int.toNat_natCast, if_pos cb]
          exact X3
      · obtain ⟨g3, Q3, e3, c3, a3, X3⟩ := plain (fun z _ hz => by
          have : z = y := by omega
          rw [this]
          exact cb)
        refine ⟨g3, Q3, ?_, c1.tr c3, a1.tr a3, X3⟩
        rw [pre, if_pos t, v1]
        simp only [xin]
        rw [if_neg (fun z => z ci), hy, hbit]
        simp only [xb]
        rw [if_neg (by omega), e3]
    · obtain ⟨g3, Q3, e3, c3, a3, X3⟩ := plain (fun z ok _ => absurd ok.2 ci)
      refine ⟨g3, Q3, ?_, c1.tr c3, a1.tr a3, X3⟩
      rw [pre, if_pos t, v1]
      simp only [xin]
      rw [if_pos ci, e3]
  · obtain ⟨g3, Q3, e3, c3, a3, X3⟩ := plain (fun z ok _ => absurd (n1.mp ok.1) t)
    refine ⟨g3, Q3, ?_, c1.tr c3, a1.tr a3, X3⟩
    rw [pre, if_neg t, e3]
theorem q_186E (hF : 1000 ≤ F) (hn : 0 ≤ n ∧ n ≤ 120) (ht : ∀ k : Nat, (k : Int) < n → 0 ≤ tp k ∧ tp k ≤ 255) (k0 : (Option Nat) → MH → (Option MH)) {e : Int × Int} (X : MM g tp n Q (.error e)) (s : Int32) : ∃ g' Q', b_M_readsRest_186 F k0 (some 34) s g = k0 (some 34) g' ∧ Ch 34 47 g g' ∧ Mg Q Q' ∧ MM g' tp n Q' (.error e) := by
  obtain ⟨g1, Q1, e1, c1, a1, X1⟩ := q_258 (F := F) hF hn ht k0 X
  refine ⟨g1, Q1, ?_, c1, a1, X1⟩
  unfold b_M_readsRest_186 b_M_readsRest_250
  rw [mf6 X.1, bd, X.on, m_letE X.1 X.2.2.2.2.1, bd, X.on, m_numE X.1 X.2.2.2.2.1, bd, X.on, m_wE X.1 X.2.2.2.2.1, bd, if_pos rfl, e1]
theorem q_186O (hF : 1000 ≤ F) (hn : 0 ≤ n ∧ n ≤ 120) (ht : ∀ k : Nat, (k : Int) < n → 0 ≤ tp k ∧ tp k ≤ 255) (k0 : (Option Nat) → MH → (Option MH)) {v : Nat → Int} {p : Nat} (X : MM g tp n Q (.ok (v, p))) (W : WP v) (hs : srt (Lt tp n p) ≠ 0) (h4 : v 4 ≠ 4) : ∃ g' Q', b_M_readsRest_186 F k0 (some 34) (zI (srt (Lt tp n p))) g = k0 (some 34) g' ∧ Ch 34 47 g g' ∧ Mg Q Q' ∧ MM g' tp n Q' (hsS (Lt tp n) v p) := by
  have w4 := W.1.2.2.2.1
  have hL : 97 ≤ Lt tp n p ∧ Lt tp n p ≤ 122 := by
    by_cases z : 97 ≤ Lt tp n p ∧ Lt tp n p ≤ 122
    · exact z
    · exfalso
      apply hs
      unfold srt
      rw [if_neg (by omega), if_neg (by omega), if_neg (by omega), if_neg (by omega), if_neg (by omega)]
  obtain ⟨r1, r2, r3, A⟩ := id X.2.2.2.2.1
  obtain ⟨l1', l2', -⟩ := adv_let A
  have hval := l2' (l1'.mp hL)
  obtain ⟨g1, Q1, e1, c1, a1, X1⟩ := q_let (F := F) hF hn ht 1 (zI (Lt tp n p)) (kd := 1) (c := Lt tp n p) rfl rfl (by omega) X
  have es : sL (Lt tp n) (Lt tp n p) (.ok (v, p)) = .ok (v, p + 1) := if_pos rfl
  rw [es] at X1
  obtain ⟨M1, t1, t2, Z1, R1, V1⟩ := id X1
  obtain ⟨x, g2, Q2, e2, c2, M2, a2, b2', R2, hx⟩ := m_num (F := F) hF hn ht M1 t1 t2 R1 (lo := 1) (hi := 20) (by omega) (by omega) (9 + (v 4).toNat)
  have e2' : f_M_number F (some 34) (1 : Int32) (20 : Int32) (0 : Int32) g1 = some (zI x, g2) := e2
  have u1 : Q2 1 = tp := (a2.1 1 (by decide) (by decide)).trans t1
  have u2 : Q2 0 2 = n := (a2.2 2 (by omega)).trans t2
  have u5 : Q2 5 = v := b2'.trans (V1 v (p + 1) rfl)
  unfold hsS
  rw [if_neg hs, if_neg h4]
  cases hN : sN (Lt tp n) (9 + (v 4).toNat) 1 20 (.ok (v, p + 1)) with
  | error e =>
    rw [hN] at R2
    have X2 : MM g2 tp n Q2 (.error e) := ⟨M2, u1, u2, by rw [b2']; exact Z1, R2, fun u q z => by cases z⟩
    obtain ⟨g3, Q3, e3, c3, a3, X3⟩ := q_258 (F := F) hF hn ht k0 X2
    refine ⟨g3, Q3, ?_, c1.tr (c2.tr c3), a1.tr (a2.tr a3), X3⟩
    unfold b_M_readsRest_186 b_M_readsRest_250
    rw [mf6 X.1, bd, X.on, hval, e1, bd, X1.on, e2', bd, X2.on, m_wE M2 R2, bd, if_pos rfl, e3]
  | ok vq =>
    obtain ⟨v', q⟩ := vq
    rw [hN] at R2
    have hv := hx v (p + 1) v' q rfl hN
    obtain ⟨m, hm⟩ : ∃ m : Nat, v 4 = m := ⟨(v 4).toNat, by omega⟩
    rw [hm, Int.toNat_natCast] at hv
    have X2 : MM g2 tp n Q2 (.ok (v, q)) := ⟨M2, u1, u2, by rw [b2']; exact Z1, R2, fun u r z => by cases z; exact u5⟩
    obtain ⟨g3, e3, c3, a3, X3⟩ := mm_st2 X2 (k := (5 : Int32) + zI (m : Int)) (j := 5 + m) (by rw [l5, zI_add]; rfl) (by omega) (srt (Lt tp n p))
    obtain ⟨g4, e4, c4, a4, X4⟩ := mm_st2 X3 (k := (9 : Int32) + zI (m : Int)) (j := 9 + m) (by rw [l9, zI_add]; rfl) (by omega) x
    obtain ⟨g5, e5, c5, a5, X5⟩ := mm_st2 X4 (k := 4) (j := 4) rfl (by omega) ((m : Int) + 1)
    obtain ⟨g6, Q6, e6, c6, a6, X6⟩ := q_258 (F := F) hF hn ht k0 X5
    have d4 : ald g2 (some 39) 0 (4 : Int32) = some (zI (m : Int)) := by rw [mm_ld X2 (k := 4) (j := 4) rfl (by omega), u5, hm]
    have d4' : ald g3 (some 39) 0 (4 : Int32) = some (zI (m : Int)) := by
      rw [mm_ld X3 (k := 4) (j := 4) rfl (by omega)]
      show some (zI (upI (Q2 5) (5 + m) (srt (Lt tp n p)) 4)) = _
      rw [upI_n _ _ (by omega), u5, hm]
    have d4'' : ald g4 (some 39) 0 (4 : Int32) = some (zI (m : Int)) := by
      rw [mm_ld X4 (k := 4) (j := 4) rfl (by omega)]
      show some (zI (upI (upI (Q2 5) (5 + m) (srt (Lt tp n p))) (9 + m) x 4)) = _
      rw [upI_n _ _ (by omega), upI_n _ _ (by omega), u5, hm]
    refine ⟨g6, Q6, ?_, c1.tr (c2.tr (c3.tr (c4.tr (c5.tr c6)))), a1.tr (a2.tr (a3.tr (a4.tr (a5.tr a6)))), ?_⟩
    · unfold b_M_readsRest_186 b_M_readsRest_250
      rw [mf6 X.1, bd, X.on, hval, e1, bd, X1.on, e2', bd, X2.on, m_wO M2 R2, bd, if_neg (by decide), X2.d, bd, bd, d4, bd, e3, bd, X3.d, bd, bd, d4', bd, e4, bd, X4.d, bd, d4'', bd, l1, zI_add, e5, bd, e6]
    · have X6 : MM g6 tp n Q6 (sL (Lt tp n) 59 (.ok (upI (upI (upI v (5 + m) (srt (Lt tp n p))) (9 + m) x) 4 ((m : Int) + 1), q))) := X6
      have hsw : upI (upI (upI v (5 + m) (srt (Lt tp n p))) (9 + m) x) 4 ((m : Int) + 1) = upI (upI v' (5 + m) (srt (Lt tp n p))) 4 ((m : Int) + 1) := by
        rw [hv]
        funext k
        unfold upI
        by_cases a1 : k = 4
        · rw [if_pos a1, if_pos a1]
        · rw [if_neg a1, if_neg a1]
          by_cases a2 : k = 9 + m
          · rw [if_pos a2, if_neg (by omega), if_pos a2]
          · rw [if_neg a2, if_neg a2]
      rw [hsw] at X6
      rw [hm, Int.toNat_natCast]
      by_cases cl : Lt tp n q = 59
      · rw [show sL (Lt tp n) 59 (.ok (upI (upI v' (5 + m) (srt (Lt tp n p))) 4 ((m : Int) + 1), q)) = .ok (upI (upI v' (5 + m) (srt (Lt tp n p))) 4 ((m : Int) + 1), q + 1) from if_pos cl] at X6
        rw [show sL (Lt tp n) 59 (.ok (v', q)) = .ok (v', q + 1) from if_pos cl]
        exact X6
      · rw [show sL (Lt tp n) 59 (.ok (upI (upI v' (5 + m) (srt (Lt tp n p))) 4 ((m : Int) + 1), q)) = .error (1, (q : Int)) from if_neg cl] at X6
        rw [show sL (Lt tp n) 59 (.ok (v', q)) = .error (1, (q : Int)) from if_neg cl]
        exact X6
theorem srt_of {c : Int} (hc : -1 ≤ c ∧ c ≤ 255) : f_M_sortOf (zI c) = zI (srt c) := by
  have y1 : zI c = (115 : Int32) ↔ c = 115 := zI_eq (b := 115) (by omega) (by omega) (by omega) (by omega)
  have y2 : zI c = (112 : Int32) ↔ c = 112 := zI_eq (b := 112) (by omega) (by omega) (by omega) (by omega)
  have y3 : zI c = (114 : Int32) ↔ c = 114 := zI_eq (b := 114) (by omega) (by omega) (by omega) (by omega)
  have y4 : zI c = (104 : Int32) ↔ c = 104 := zI_eq (b := 104) (by omega) (by omega) (by omega) (by omega)
  have y5 : zI c = (108 : Int32) ↔ c = 108 := zI_eq (b := 108) (by omega) (by omega) (by omega) (by omega)
  unfold f_M_sortOf srt
  simp only [y1, y2, y3, y4, y5]
  (repeat' split) <;> rfl
theorem q_33 (hF : 1000 ≤ F) (hn : 0 ≤ n ∧ n ≤ 120) (ht : ∀ k : Nat, (k : Int) < n → 0 ≤ tp k ∧ tp k ≤ 255) (k0 : (Option Nat) → MH → (Option MH)) {v : Nat → Int} {p : Nat} (X : MM g tp n Q (.ok (v, p))) (W : WP v) (hne : Lt tp n p ≠ -1) : ∃ g' Q', b_M_readsRest_33 F k0 (some 34) (zI (srt (Lt tp n p))) g = k0 (some 34) g' ∧ Ch 34 47 g g' ∧ Mg Q Q' ∧ MM g' tp n Q' (stp (Lt tp n) v p) := by
  have w4 := W.1.2.2.2.1
  have w13 := W.1.2.2.2.2.2.1
  have hl := Lt_r ht p
  have hsr := srt_r (Lt tp n p)
  obtain ⟨M, t1, t2, Z, R, V⟩ := id X
  obtain ⟨r1, r2, r3, A⟩ := id R
  have htok := A.tok
  obtain ⟨l1', l2', -⟩ := adv_let A
  have hv : Q 5 = v := V v p rfl
  have x1 : zI (Q 0 4) = (1 : Int32) ↔ Q 0 4 = 1 := zI_eq (b := 1) (by omega) (by omega) (by omega) (by omega)
  have d4 : ald g (some 39) 0 (4 : Int32) = some (zI (v 4)) := by rw [mm_ld X (k := 4) (j := 4) rfl (by omega), hv]
  have d13 : ald g (some 39) 0 (13 : Int32) = some (zI (v 13)) := by rw [mm_ld X (k := 13) (j := 13) rfl (by omega), hv]
  have x40 : zI (v 4) = (0 : Int32) ↔ v 4 = 0 := zI_eq (b := 0) (by omega) (by omega) (by omega) (by omega)
  have x44 : zI (v 4) = (4 : Int32) ↔ v 4 = 4 := zI_eq (b := 4) (by omega) (by omega) (by omega) (by omega)
  have xs : zI (srt (Lt tp n p)) ≤ (0 : Int32) ↔ srt (Lt tp n p) ≤ 0 := zI_le (b := 0) (by omega) (by omega) (by omega) (by omega)
  have failX : ∀ k : Int, 1 ≤ k ∧ k ≤ 3 → ∃ g' Q', f_M_fails (some 34) (zI k) g = some g' ∧ Ch 34 47 g g' ∧ Mg Q Q' ∧ MM g' tp n Q' (.error (k, (p : Int))) := by
    intro k hk
    obtain ⟨g1, Q1, e1, c1, M1, a1, b1, R1⟩ := m_fail0 (tp := tp) (n := n) M r1 r2 (by omega) hk
    exact ⟨g1, Q1, e1, c1, a1, M1, (a1.1 1 (by decide) (by decide)).trans t1, (a1.2 2 (by omega)).trans t2, by rw [b1]; exact Z, R1, fun u q z => by cases z⟩
  -- a hand, or what is none
  have hand : ¬ (Lt tp n p = 109 ∧ v 4 = 0) → ∃ g' Q', b_M_readsRest_167 F k0 (some 34) (zI (srt (Lt tp n p))) g = k0 (some 34) g' ∧ Ch 34 47 g g' ∧ Mg Q Q' ∧ MM g' tp n Q' (stp (Lt tp n) v p) := by
    intro hno
    unfold stp
    rw [if_neg hno]
    by_cases c1 : srt (Lt tp n p) = 0
    · obtain ⟨g1, Q1, e1, c1', a1, X1⟩ := failX 1 (by omega)
      obtain ⟨g2, Q2, e2, c2, a2, X2⟩ := q_258 (F := F) hF hn ht k0 X1
      refine ⟨g2, Q2, ?_, c1'.tr c2, a1.tr a2, ?_⟩
      · unfold b_M_readsRest_167
        simp only [xs]
        rw [if_pos (by omega), X.on, l1, e1, bd, e2]
      · unfold hsS
        rw [if_pos c1]
        exact X2
    · by_cases c2 : v 4 = 4
      · obtain ⟨g1, Q1, e1, c1', a1, X1⟩ := failX 3 (by omega)
        obtain ⟨g2, Q2, e2, c2', a2, X2⟩ := q_186E (F := F) hF hn ht k0 X1 (zI (srt (Lt tp n p)))
        refine ⟨g2, Q2, ?_, c1'.tr c2', a1.tr a2, ?_⟩
        · unfold b_M_readsRest_167
          simp only [xs]
          rw [if_neg (by omega), X.d, bd, d4, bd]
          simp only [x44]
          rw [if_pos c2, X.on, l3, e1, bd, e2]
        · unfold hsS
          rw [if_neg c1, if_pos c2]
          exact X2
      · obtain ⟨g2, Q2, e2, c2', a2, X2⟩ := q_186O (F := F) hF hn ht k0 X W c1 c2
        refine ⟨g2, Q2, ?_, c2', a2, X2⟩
        unfold b_M_readsRest_167
        simp only [xs]
        rw [if_neg (by omega), X.d, bd, d4, bd]
        simp only [x44]
        rw [if_neg c2, e2]
  unfold b_M_readsRest_33
  rw [mf4 M, bd]
  simp only [x1]
  by_cases t : Q 0 4 = 1
  · have hL := l1'.mpr t
    have hval := l2' t
    have x109 : zI (Lt tp n p) = (109 : Int32) ↔ Lt tp n p = 109 := zI_eq (b := 109) (by omega) (by omega) (by omega) (by omega)
    rw [if_pos t, mf6 M, bd, hval]
    simp only [x109]
    by_cases c : Lt tp n p = 109
    · rw [if_pos c, X.d, bd, d4, bd]
      simp only [x40]
      by_cases c4 : v 4 = 0
      · obtain ⟨m13, hm⟩ : ∃ m13 : Nat, v 13 = m13 := ⟨(v 13).toNat, by omega⟩
        have hones : f_M_ones F (zI (v 13)) = some (zI (onN m13 : Nat)) := by rw [hm, zN, m_ones (by omega) (by omega), zN]
        have hon4 : onN m13 ≤ 4 := by
          have := W.2.2.2.2
          rw [hm, Int.toNat_natCast] at this
          exact this
        have xo : zI (onN m13 : Nat) = (4 : Int32) ↔ (onN m13 : Int) = 4 := zI_eq (b := 4) (by omega) (by omega) (by omega) (by omega)
        rw [if_pos c4, bd, d13, bd, hones, bd]
        simp only [xo]
        have hst : stp (Lt tp n) v p = (if onN m13 = 4 then .error (3, (p : Int)) else moB (Lt tp n) v p) := by
          unfold stp
          rw [if_pos (show Lt tp n p = 109 ∧ v 4 = 0 from ⟨c, c4⟩), hm, Int.toNat_natCast]
        rw [hst]
        by_cases co : onN m13 = 4
        · obtain ⟨g1, Q1, e1, c1', a1, X1⟩ := failX 3 (by omega)
          obtain ⟨g2, Q2, e2, c2, a2, X2⟩ := q_79E (F := F) hF hn ht k0 X1
          refine ⟨g2, Q2, ?_, c1'.tr c2, a1.tr a2, by rw [if_pos co]; exact X2⟩
          rw [if_pos (by omega), X.on, l3, e1, bd, e2]
        · obtain ⟨g2, Q2, e2, c2, a2, X2⟩ := q_79O (F := F) hF hn ht k0 X W c
          refine ⟨g2, Q2, ?_, c2, a2, by rw [if_neg co]; exact X2⟩
          rw [if_neg (by omega), e2]
      · rw [if_neg c4]
        exact hand (fun z => c4 z.2)
    · rw [if_neg c]
      exact hand (fun z => c z.1)
  · rw [if_neg t]
    exact hand (fun z => t (l1'.mp (by omega)))
theorem q_rest (hF : 1000 ≤ F) (hn : 0 ≤ n ∧ n ≤ 120) (ht : ∀ k : Nat, (k : Int) < n → 0 ≤ tp k ∧ tp k ≤ 255) : ∀ (d fu : Nat) (g : MH) (Q : Nat → Nat → Int) (S : PS), (∀ v p, S = .ok (v, p) → WP v ∧ n ≤ p + d) → d + 1 < fu → MM g tp n Q S → ∃ g' Q', b_M_readsRest_0 F fu (some 34) g = some g' ∧ Ch 34 47 g g' ∧ Mg Q Q' ∧ MM g' tp n Q' (pR (Lt tp n) 200 S) := by
  intro d
  induction d with
  | zero =>
    intro fu g Q S hS hf X
    obtain ⟨fu, rfl⟩ : ∃ q, fu = q + 1 := ⟨fu - 1, by omega⟩
    cases S with
    | error e =>
      refine ⟨g, Q, ?_, Ch_0 _ _ g, Mg_0 Q, by rw [pR_err]; exact X⟩
      unfold b_M_readsRest_0
      rw [X.on, m_wE X.1 X.2.2.2.2.1, bd, if_pos rfl]
    | ok vp =>
      obtain ⟨v, p⟩ := vp
      obtain ⟨W, hb⟩ := hS v p rfl
      have hL : Lt tp n p = -1 := by unfold Lt; rw [if_neg (by omega)]
      obtain ⟨r1, r2, r3, A⟩ := id X.2.2.2.2.1
      have htok := A.tok
      have t0 := (adv_let A).2.2.mpr (by omega)
      refine ⟨g, Q, ?_, Ch_0 _ _ g, Mg_0 Q, by rw [pR_end hL]; exact X⟩
      unfold b_M_readsRest_0
      rw [X.on, m_wO X.1 X.2.2.2.2.1, bd, if_neg (by decide), mf4 X.1, bd, t0, if_pos (show zI 0 = (0 : Int32) from rfl)]
  | succ d ih =>
    intro fu g Q S hS hf X
    obtain ⟨fu, rfl⟩ : ∃ q, fu = q + 1 := ⟨fu - 1, by omega⟩
    cases S with
    | error e =>
      refine ⟨g, Q, ?_, Ch_0 _ _ g, Mg_0 Q, by rw [pR_err]; exact X⟩
      unfold b_M_readsRest_0
      rw [X.on, m_wE X.1 X.2.2.2.2.1, bd, if_pos rfl]
    | ok vp =>
      obtain ⟨v, p⟩ := vp
      obtain ⟨W, hb⟩ := hS v p rfl
      have hl := Lt_r ht p
      obtain ⟨r1, r2, r3, A⟩ := id X.2.2.2.2.1
      have htok := A.tok
      obtain ⟨l1', l2', l3'⟩ := adv_let A
      have x0 : zI (Q 0 4) = (0 : Int32) ↔ Q 0 4 = 0 := zI_eq (b := 0) (by omega) (by omega) (by omega) (by omega)
      have x1 : zI (Q 0 4) = (1 : Int32) ↔ Q 0 4 = 1 := zI_eq (b := 1) (by omega) (by omega) (by omega) (by omega)
      by_cases hL : Lt tp n p = -1
      · have t0 := l3'.mpr (by omega)
        refine ⟨g, Q, ?_, Ch_0 _ _ g, Mg_0 Q, by rw [pR_end hL]; exact X⟩
        unfold b_M_readsRest_0
        rw [X.on, m_wO X.1 X.2.2.2.2.1, bd, if_neg (by decide), mf4 X.1, bd, t0, if_pos (show zI 0 = (0 : Int32) from rfl)]
      · have t0 : ¬ Q 0 4 = 0 := fun z => by
          have := l3'.mp z
          omega
        obtain ⟨g1, Q1, e1, c1, a1, X1⟩ := q_33 (F := F) hF hn ht (b_M_readsRest_0 F fu) X W hL
        obtain ⟨g2, Q2, e2, c2, a2, X2⟩ := ih fu g1 Q1 (stp (Lt tp n) v p) (fun v' q hq => by
          obtain ⟨b1, b2', b3⟩ := stp_ok hn ht W hq
          exact ⟨b3, by omega⟩) (by omega) X1
        rw [pR_st hn ht W hL] at X2
        refine ⟨g2, Q2, ?_, c1.tr c2, a1.tr a2, X2⟩
        have hz : ∀ f : Int, (if Q 0 4 = 1 then srt (Q 0 6) else 0) = f → f = srt (Lt tp n p) := by
          intro f hf
          rw [← hf]
          by_cases t : Q 0 4 = 1
          · rw [if_pos t, l2' t]
          · rw [if_neg t]
            have : ¬ (97 ≤ Lt tp n p ∧ Lt tp n p ≤ 122) := fun z => t (l1'.mp z)
            unfold srt
            rw [if_neg (by omega), if_neg (by omega), if_neg (by omega), if_neg (by omega), if_neg (by omega)]
        unfold b_M_readsRest_0
        rw [X.on, m_wO X.1 X.2.2.2.2.1, bd, if_neg (by decide), mf4 X.1, bd]
        simp only [x0, x1]
        rw [if_neg t0, bd]
        simp only [x1]
        by_cases t : Q 0 4 = 1
        · rw [if_pos t, mf6 X.1, bd, l2' t, srt_of (by omega), e1]
          exact e2
        · have := hz 0 (by rw [if_neg t])
          rw [if_neg t, show (0 : Int32) = zI 0 from rfl, this, e1]
          exact e2
end
