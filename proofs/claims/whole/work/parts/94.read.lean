/-! ===== what is told, the class: hands, all ===== -/
def CB (h : MH) (tp : Nat → Int) (n lf0 : Int) (S : PS) : Prop := TS h tp n lf0 S ∧ Tb h 29 ∧ ∀ v p, S = .ok (v, p) → Bs h 29 v
def Fq (k : Nat) (h h' : MH) : Prop := (h.2.1 ≤ h'.2.1 ∧ h'.2.1 ≤ h.2.1 + k) ∧ (h.2.2 ≤ h'.2.2 ∧ h'.2.2 ≤ h.2.2 + 3 * k) ∧ (∀ j, j < h.2.1 → j ≠ 8 → j ≠ 29 → j ≠ 30 → j ≠ 31 → h'.1 j = h.1 j) ∧ (Dn h → Dn h')
theorem Fq.tr {a b c : Nat} {h h1 h2 : MH} (x : Fq a h h1) (y : Fq b h1 h2) (hc : a + b ≤ c) : Fq c h h2 := by
  obtain ⟨⟨x1, x2⟩, ⟨x3, x4⟩, x5, x6⟩ := x
  obtain ⟨⟨y1, y2⟩, ⟨y3, y4⟩, y5, y6⟩ := y
  exact ⟨⟨by omega, by omega⟩, ⟨by omega, by omega⟩, fun j q1 q2 q3 q4 q5 => (y5 j (by omega) q2 q3 q4 q5).trans (x5 j q1 q2 q3 q4 q5), fun z => y6 (x6 z)⟩
theorem Ch.fq {lo hi : Nat} {h h' : MH} (c : Ch lo hi h h') (hl : (lo = 8 ∧ hi = 8) ∨ (29 ≤ lo ∧ hi ≤ 31)) : Fq 0 h h' := by
  refine ⟨?_, ?_, fun j _ q2 q3 q4 q5 => c.2 j (by omega), fun D => D.fr c (by omega)⟩
  · rw [c.1]; omega
  · rw [c.1]; omega
theorem hC_nil {s n mi : Int} : hC s n mi ≠ mj_nil := by
  intro e
  have z : (3 : Nat) = 0 := congrArg (fun c : MC => match c with
    | .inr (.inr q) => q.2.length
    | _ => 0) e
  omega
theorem Fq_0 (h : MH) : Fq 0 h h := ⟨by omega, by omega, fun _ _ _ _ _ _ => rfl, fun D => D⟩
section
variable {tp : Nat → Int} {n lf0 : Int} {F : Nat}
theorem k_add {h : MH} {v : Nat → Int} (B : Bs h 29 v) (T : Tb h 29) {m : Nat} (h4 : v 4 = m) (hm : m < 4) {p0 : Nat} {s x : Int} (hp : 48 ≤ p0) (H : h.1 p0 = hC s m x) : ∃ h', f_B_addHand (some 29) (some p0) h = some h' ∧ Ch 29 31 h h' ∧ Tb h' 29 ∧ Bs h' 29 (upI (upI (upI v (9 + m) x) (5 + m) s) 4 (m + 1)) := by
  obtain ⟨t, f, g, t1, t2, t3, t4, t5⟩ := T
  obtain ⟨B0, B1, g0, B2, B3⟩ := B
  have eg : g0 = g := by
    rw [t4] at B2
    cases B2
    rfl
  subst eg
  have g8 : gfi h (some 29) [1] 8 = some (zI (m : Int)) := by rw [← h4]; exact (b_g B0).2.2.2.2.2.2.2.2.1
  have g10 := (b_g B0).2.2.2.2.2.2.2.2.2.2
  have hw : f_C_within (zI (m : Int)) (zI 4) = 0 ↔ ¬ (0 ≤ (m : Int) ∧ (m : Int) < 4) := s_within0 (by omega) (by omega) (by omega) (by omega)
  have hq := qst_q t4 (k := m) (by omega) (o := some p0) (Or.inr ⟨p0, s, m, x, rfl, H⟩)
  obtain ⟨h1, hh1⟩ : ∃ h1, h1 = mj_up h 31 (rQ (va_up g0 m (some p0))) := ⟨_, rfl⟩
  have c1 : Ch 29 31 h h1 := by rw [hh1]; exact Ch_up h _ (by omega) (by omega)
  have C0 : h1.1 29 = bO v 29 := by rw [hh1, up_get, if_neg (by decide)]; exact B0
  have g8' : gfi h1 (some 29) [1] 8 = some (zI (m : Int)) := by rw [← h4]; exact (b_g C0).2.2.2.2.2.2.2.2.1
  obtain ⟨v2, hv2⟩ : ∃ v2, v2 = upI (upI (upI v (9 + m) x) (5 + m) s) 4 ((m : Int) + 1) := ⟨_, rfl⟩
  have hlow : ∀ k : Nat, k ≠ 4 → k ≠ 5 + m → k ≠ 9 + m → v2 k = v k := fun k a1 a2 a3 => by rw [hv2, upI_n _ _ a1, upI_n _ _ a2, upI_n _ _ a3]
  have h24 : v2 4 = (m : Int) + 1 := by rw [hv2, upI_s]
  have hobj : (bF v 30 31).set 8 (.int (zI ((m : Int) + 1))) = bF v2 30 31 := by
    rw [bF_set8]
    unfold bF
    rw [upI_n _ _ (by decide), upI_n _ _ (by decide), upI_n _ _ (by decide), upI_n _ _ (by decide), upI_n _ _ (by decide), upI_n _ _ (by decide), upI_n _ _ (by decide), upI_n _ _ (by decide), upI_s, h24, hlow 1 (by omega) (by omega) (by omega), hlow 2 (by omega) (by omega) (by omega), hlow 3 (by omega) (by omega) (by omega), hlow 13 (by omega) (by omega) (by omega), hlow 14 (by omega) (by omega) (by omega), hlow 15 (by omega) (by omega) (by omega), hlow 16 (by omega) (by omega) (by omega), hlow 17 (by omega) (by omega) (by omega)]
  have e2 : pfv h1 (some 29) [1] 8 (.int (zI ((m : Int) + 1))) = some (mj_up h1 29 (bO v2 29)) := by
    rw [pfv_o C0 (by rw [bF_len]; decide) rfl, hobj]
  have c2 : Ch 29 31 h1 (mj_up h1 29 (bO v2 29)) := Ch_up h1 _ (by omega) (by omega)
  have call := c1.tr c2
  have hk := call.hk (by omega)
  have D2 : (mj_up h1 29 (bO v2 29)).1 31 = rQ (va_up g0 m (some p0)) := by rw [up_get, if_neg (by decide), hh1, up_get, if_pos rfl]
  have Hp : (mj_up h1 29 (bO v2 29)).1 p0 = hC s m x := (call.2 p0 (by omega)).trans H
  have gval : ∀ i, i ≠ m → va_up g0 m (some p0) i = g0 i := fun i hi => by unfold va_up; rw [if_neg hi]
  have gm : va_up g0 m (some p0) m = some p0 := by unfold va_up; rw [if_pos rfl]
  refine ⟨mj_up h1 29 (bO v2 29), ?_, call, ⟨v2, f, _, by rw [up_get, if_pos rfl], ?_, t3, D2, ?_⟩, ?_, ?_, _, D2, ?_⟩
  · unfold f_B_addHand
    rw [g8, bd, g10, bd, alen_q t4, bd]
    simp only [hw]
    rw [if_neg (show ¬ ¬ (0 ≤ (m : Int) ∧ (m : Int) < 4) from fun z => z ⟨by omega, by omega⟩), bd, bd, hq, ← hh1, bd, g8', bd, l1, zI_add, e2]
    rfl
  · rw [up_get, if_neg (by decide), hh1, up_get, if_neg (by decide)]; exact t2
  · intro i hi
    by_cases c : i = m
    · rw [c, gm]
      exact Or.inr ⟨p0, s, m, x, rfl, hp, Hp⟩
    · rw [gval i c]
      rcases t5 i hi with e | ⟨p, s', n', mi, e1, e2', e3⟩
      · exact Or.inl e
      · exact Or.inr ⟨p, s', n', mi, e1, e2', (hk p e2' ⟨_, _, _, e3⟩).trans e3⟩
  · rw [← hv2, up_get, if_pos rfl]
  · rw [← hv2, up_get, if_neg (by decide), hh1, up_get, if_neg (by decide), B1]
    congr 2
    funext j
    exact (hlow (18 + j) (by omega) (by omega) (by omega)).symm
  · intro i hi
    rw [← hv2] at hi ⊢
    rw [h24] at hi
    by_cases c : i = m
    · refine ⟨p0, by rw [c, gm], hp, ?_⟩
      rw [Hp, c]
      have a5 : v2 (5 + m) = s := by rw [hv2, upI_n _ _ (by omega), upI_s]
      have a9 : v2 (9 + m) = x := by rw [hv2, upI_n _ _ (by omega), upI_n _ _ (by omega), upI_s]
      rw [a5, a9]
    · obtain ⟨p, p1, p2, p3⟩ := B3 i (by omega)
      refine ⟨p, by rw [gval i c]; exact p1, p2, ?_⟩
      rw [hlow (5 + i) (by omega) (by omega) (by omega), hlow (9 + i) (by omega) (by omega) (by omega)]
      exact (hk p p2 ⟨_, _, _, p3⟩).trans p3
noncomputable def hsS' (L : Nat → Int) (S : PS) : PS := match S with
  | .ok (v, p) => hsS L v p
  | .error e => .error e
theorem k_68 (hF : 100 ≤ F) (hn : 0 ≤ n ∧ n ≤ 120) (ht : ∀ k : Nat, (k : Int) < n → 0 ≤ tp k ∧ tp k ≤ 255) (k2 : (Option Nat) → (Option Nat) → Int32 → MH → (Option MH)) {m : Nat} (hm : m ≤ 4) {c : Int} (hc : 0 ≤ c ∧ c ≤ 255) {h : MH} {S : PS} (D : Dn h) (X : CB h tp n lf0 S) (hS : ∀ v p, S = .ok (v, p) → v 4 = m ∧ m < 4 ∧ c = Lt tp n p ∧ srt c ≠ 0) : ∃ h', b_T_readHands_68 F k2 (some 8) (some 29) (zI (m : Int)) (zI c) h = k2 (some 8) (some 29) (zI ((m + 1 : Nat) : Int)) h' ∧ Fq 1 h h' ∧ CB h' tp n lf0 (hsS' (Lt tp n) S) := by
  obtain ⟨h1, e1, c1, T1⟩ := c_let hn ht hc X.1
  obtain ⟨x, h2, e2, c2, T2, xr, hx⟩ := c_num hF hn ht (lo := 1) (hi := 20) (by omega) (by omega) (9 + m) T1
  obtain ⟨h3, e3, c3, T3⟩ := c_let hn ht (c := 59) (by omega) T2
  have c8 : Ch 8 8 h h3 := c1.tr (c2.tr c3)
  have Tb3 := X.2.1.ch c8 (by omega) (by omega)
  have D3 : Dn h3 := D.fr c8 (by omega)
  have pre : ∀ fa, gfi h3 (some 8) [9] 3 = some fa → b_T_readHands_68 F k2 (some 8) (some 29) (zI (m : Int)) (zI c) h = if fa = 0 then (Option.bind (f_T_handOf (zI c) (zI (m : Int)) (zI x) h3) fun x10 => Option.bind (onc x10.2 (some 29) 1 (f_B_addHand (some 29) x10.1 x10.2)) fun h12 => k2 (some 8) (some 29) (zI ((m + 1 : Nat) : Int)) h12) else k2 (some 8) (some 29) (zI ((m + 1 : Nat) : Int)) h3 := by
    intro fa hfa
    unfold b_T_readHands_68 b_T_readHands_106
    rw [X.1.on, e1, bd, T1.on, show f_T_readNumber F (some 8) (1 : Int32) (20 : Int32) h1 = _ from e2, bd, T2.on, show f_T_readLetter (some 8) (59 : Int32) h2 = _ from e3, bd, hfa, bd, l1, zI_add]
    rfl
  have bad : ∀ e, sL (Lt tp n) 59 (sN (Lt tp n) (9 + m) 1 20 (sL (Lt tp n) c S)) = .error e → ∃ h', b_T_readHands_68 F k2 (some 8) (some 29) (zI (m : Int)) (zI c) h = k2 (some 8) (some 29) (zI ((m + 1 : Nat) : Int)) h' ∧ Fq 1 h h' ∧ CB h' tp n lf0 (.error e) := by
    intro e he
    rw [he] at T3
    obtain ⟨p, Y, -, r1, r2⟩ := T3.err
    have x0 : zI e.1 = (0 : Int32) ↔ e.1 = 0 := zI_eq (b := 0) (by omega) (by omega) (by omega) (by omega)
    refine ⟨h3, ?_, (c8.fq (by omega)).tr (Fq_0 h3) (by omega), T3, Tb3, fun v p z => by cases z⟩
    rw [pre _ (t_g Y).2]
    simp only [x0]
    rw [if_neg (by omega)]
  cases S with
  | error e => exact bad e rfl
  | ok vp =>
    obtain ⟨v, p⟩ := vp
    obtain ⟨q1, q2, q3, q4⟩ := hS v p rfl
    have es : sL (Lt tp n) c (.ok (v, p)) = .ok (v, p + 1) := if_pos q3.symm
    rw [es] at T3 hx bad
    show ∃ h', _ ∧ _ ∧ CB h' tp n lf0 (hsS (Lt tp n) v p)
    unfold hsS
    rw [if_neg (by rw [← q3]; exact q4), if_neg (by omega), q1, Int.toNat_natCast]
    cases hS3 : sL (Lt tp n) 59 (sN (Lt tp n) (9 + m) 1 20 (.ok (v, p + 1))) with
    | error e => exact bad e hS3
    | ok ur =>
      obtain ⟨u, r⟩ := ur
      rw [hS3] at T3
      obtain ⟨r', z4, z5, z6⟩ := sL_inv hS3
      have hu := hx v (p + 1) u r' rfl z4
      obtain ⟨fp, Y, b⟩ := T3.place
      have B3 : Bs h3 29 v := (X.2.2 v p rfl).fr (c8.hk (by omega)) (c8.2 _ (by omega)) (c8.2 _ (by omega)) (c8.2 _ (by omega))
      obtain ⟨h4, e4, r1, r2, r3, r4⟩ := k_hand (h := h3) (c := c) rfl q4 (m : Int) x
      have hp0 : 48 ≤ h3.2.1 := D3.1
      have hk4 : Hk h3 h4 := by
        intro q hq ⟨s', n', mi, e⟩
        refine r2 q (fun z => ?_)
        have := D3.2 q (by omega)
        rw [e] at this
        exact hC_nil this
      have B4 : Bs h4 29 v := B3.fr hk4 (r2 _ (by omega)) (r2 _ (by omega)) (r2 _ (by omega))
      have Tb4 : Tb h4 29 := Tb3.fr hk4 (r2 _ (by omega)) (r2 _ (by omega)) (r2 _ (by omega))
      obtain ⟨h5, e5, c5, Tb5, B5⟩ := k_add B4 Tb4 q1 q2 hp0 r1
      have T4 : TS h4 tp n lf0 (.ok (u, r)) := by
        obtain ⟨pl, fa, fp', lf, Z, bb, ff⟩ := T3
        exact ⟨pl, fa, fp', lf, ⟨(r2 _ (by omega)).trans Z.1, (r2 _ (by omega)).trans Z.2⟩, bb, ff⟩
      have T5 := T4.fr c5 (by omega)
      have T5 : TS h5 tp n lf0 (.ok (upI (upI u (5 + m) (srt (Lt tp n p))) 4 ((m : Int) + 1), r)) := T5
      have f34 : Fq 1 h3 h4 := by
        refine ⟨by omega, by omega, fun j hj _ _ _ _ => r2 j (by omega), fun _ => ?_⟩
        refine ⟨by omega, fun q hq => ?_⟩
        rw [r2 q (by omega)]
        exact D3.2 q (by omega)
      refine ⟨h5, ?_, (c8.fq (by omega)).tr (f34.tr (c5.fq (by omega)) (c := 1) (by omega)) (by omega), T5, Tb5, fun v' q' hq' => ?_⟩
      · rw [pre _ (t_g Y).2, if_pos (show zI 0 = (0 : Int32) from rfl), e4, bd, b_on B4.1, e5, bd]
      · have := Except.ok.inj hq'
        have hv' : upI (upI u (5 + m) (srt (Lt tp n p))) 4 ((m : Int) + 1) = v' := congrArg Prod.fst this
        rw [← hv', hu, ← q3]
        exact B5
theorem k_ha (hF : 100 ≤ F) (hn : 0 ≤ n ∧ n ≤ 120) (ht : ∀ k : Nat, (k : Int) < n → 0 ≤ tp k ∧ tp k ≤ 255) : ∀ (d m fu : Nat) (h : MH) (S : PS), m + d = 5 → d < fu → Dn h → CB h tp n lf0 S → (∀ v p, S = .ok (v, p) → WP v ∧ v 4 = m ∧ ¬ (Lt tp n p = 109 ∧ v 4 = 0)) → ∃ h', b_T_readHands_2 F fu (some 8) (some 29) (zI (m : Int)) h = some h' ∧ Fq d h h' ∧ CB h' tp n lf0 (pR (Lt tp n) 200 S) := by
  intro d
  induction d with
  | zero =>
    intro m fu h S hm hf D X hS
    obtain ⟨fu, rfl⟩ : ∃ q, fu = q + 1 := ⟨fu - 1, by omega⟩
    have h5 : m = 5 := by omega
    subst h5
    cases S with
    | ok vp =>
      obtain ⟨v, p⟩ := vp
      obtain ⟨a1, a2, -⟩ := hS v p rfl
      have := a1.1.2.2.2.1
      omega
    | error e =>
      refine ⟨h, ?_, Fq_0 h, by rw [pR_err]; exact X⟩
      unfold b_T_readHands_2
      rw [if_pos (by decide)]
  | succ d ih =>
    intro m fu h S hm hf D X hS
    obtain ⟨fu, rfl⟩ : ∃ q, fu = q + 1 := ⟨fu - 1, by omega⟩
    have x4 : (4 : Int32) < zI (m : Int) ↔ 4 < (m : Int) := zI_lt (a := 4) (by omega) (by omega) (by omega) (by omega)
    have x4' : zI (m : Int) = (4 : Int32) ↔ (m : Int) = 4 := zI_eq (b := 4) (by omega) (by omega) (by omega) (by omega)
    cases S with
    | error e =>
      obtain ⟨p, Y, -, r1, r2⟩ := X.1.err
      have x0 : zI e.1 = (0 : Int32) ↔ e.1 = 0 := zI_eq (b := 0) (by omega) (by omega) (by omega) (by omega)
      refine ⟨h, ?_, (Fq_0 h).tr (Fq_0 h) (by omega), by rw [pR_err]; exact X⟩
      unfold b_T_readHands_2
      simp only [x4]
      rw [if_neg (by omega), (t_g Y).2, bd]
      simp only [x0]
      rw [if_neg (by omega)]
    | ok vp =>
      obtain ⟨v, p⟩ := vp
      obtain ⟨W, h4, hno⟩ := hS v p rfl
      obtain ⟨fp, Y, b⟩ := X.1.place
      have hl := Lt_r ht p
      have w4 := W.1.2.2.2.1
      have xm : zI (Lt tp n p) = (-1 : Int32) ↔ Lt tp n p = -1 := zI_eq (b := -1) (by omega) (by omega) (by omega) (by omega)
      have hsort : f_T_isSort (zI (Lt tp n p)) = 0 ↔ srt (Lt tp n p) = 0 := by
        have y1 : zI (Lt tp n p) = (115 : Int32) ↔ Lt tp n p = 115 := zI_eq (b := 115) (by omega) (by omega) (by omega) (by omega)
        have y2 : zI (Lt tp n p) = (112 : Int32) ↔ Lt tp n p = 112 := zI_eq (b := 112) (by omega) (by omega) (by omega) (by omega)
        have y3 : zI (Lt tp n p) = (114 : Int32) ↔ Lt tp n p = 114 := zI_eq (b := 114) (by omega) (by omega) (by omega) (by omega)
        have y4 : zI (Lt tp n p) = (104 : Int32) ↔ Lt tp n p = 104 := zI_eq (b := 104) (by omega) (by omega) (by omega) (by omega)
        have y5 : zI (Lt tp n p) = (108 : Int32) ↔ Lt tp n p = 108 := zI_eq (b := 108) (by omega) (by omega) (by omega) (by omega)
        unfold f_T_isSort srt
        simp only [y1, y2, y3, y4, y5]
        by_cases a1 : Lt tp n p = 115
        · rw [if_pos a1, if_pos a1]; decide
        by_cases a2 : Lt tp n p = 112
        · rw [if_neg a1, if_neg a1, if_pos a2, if_pos a2]; decide
        by_cases a3 : Lt tp n p = 114
        · rw [if_neg a1, if_neg a1, if_neg a2, if_neg a2, if_pos a3, if_pos a3]; decide
        by_cases a4 : Lt tp n p = 104
        · rw [if_neg a1, if_neg a1, if_neg a2, if_neg a2, if_neg a3, if_neg a3, if_pos a4, if_pos a4]; decide
        by_cases a5 : Lt tp n p = 108
        · rw [if_neg a1, if_neg a1, if_neg a2, if_neg a2, if_neg a3, if_neg a3, if_neg a4, if_neg a4, if_pos a5, if_pos a5]; decide
        rw [if_neg a1, if_neg a1, if_neg a2, if_neg a2, if_neg a3, if_neg a3, if_neg a4, if_neg a4, if_neg a5, if_neg a5]
        decide
      have pre : b_T_readHands_2 F (fu + 1) (some 8) (some 29) (zI (m : Int)) h = if Lt tp n p = -1 then some h else if srt (Lt tp n p) = 0 then (Option.bind (f_T_fail (some 8) (zI 1) (zI (p : Int)) h) fun h17 => b_T_readHands_68 F (b_T_readHands_2 F fu) (some 8) (some 29) (zI (m : Int)) (zI (Lt tp n p)) h17) else if (m : Int) = 4 then (Option.bind (f_T_fail (some 8) (zI 3) (zI (p : Int)) h) fun h22 => b_T_readHands_68 F (b_T_readHands_2 F fu) (some 8) (some 29) (zI (m : Int)) (zI (Lt tp n p)) h22) else b_T_readHands_68 F (b_T_readHands_2 F fu) (some 8) (some 29) (zI (m : Int)) (zI (Lt tp n p)) h := by
        conv => lhs; unfold b_T_readHands_2
        simp only [x4]
        rw [if_neg (by omega), (t_g Y).2, bd, if_pos (show zI 0 = (0 : Int32) from rfl), (t_g Y).1, bd, X.1.on, t_la Y hn (by omega), bd]
        simp only [xm, x4', bd, X.1.on, t_la Y hn (show p < 1000 by omega), hsort]
        rfl
      rw [pre]
      by_cases c : Lt tp n p = -1
      · rw [if_pos c]
        refine ⟨h, rfl, (Fq_0 h).tr (Fq_0 h) (by omega), ?_⟩
        rw [pR_end c]
        exact X
      · rw [if_neg c]
        have hst := pR_st hn ht W c
        have hstp : stp (Lt tp n) v p = hsS (Lt tp n) v p := by
          unfold stp
          rw [if_neg hno]
        rw [hstp] at hst
        have fail : ∀ (k : Int), 1 ≤ k ∧ k ≤ 3 → hsS (Lt tp n) v p = .error (k, (p : Int)) → ∃ h', (Option.bind (f_T_fail (some 8) (zI k) (zI (p : Int)) h) fun h17 => b_T_readHands_68 F (b_T_readHands_2 F fu) (some 8) (some 29) (zI (m : Int)) (zI (Lt tp n p)) h17) = some h' ∧ Fq (d + 1) h h' ∧ CB h' tp n lf0 (pR (Lt tp n) 200 (.ok (v, p))) := by
          intro k hk hh
          obtain ⟨h1, e1, c1, Y1⟩ := t_fail0 Y k (p : Int)
          have X1 : CB h1 tp n lf0 (.error (k, (p : Int))) := ⟨TS.mkE Y1 b hk (by omega), X.2.1.ch c1 (by omega) (by omega), fun v p z => by cases z⟩
          obtain ⟨h2, e2, f2, X2⟩ := k_68 (F := F) hF hn ht (b_T_readHands_2 F fu) (m := m) (by omega) (c := Lt tp n p) (by omega) (D.fr c1 (by omega)) X1 (fun v p z => by cases z)
          obtain ⟨h3, e3, f3, X3⟩ := ih (m + 1) fu h2 (.error (k, (p : Int))) (by omega) (by omega) (f2.2.2.2 (D.fr c1 (by omega))) X2 (fun v p z => by cases z)
          refine ⟨h3, ?_, ((c1.fq (by omega)).tr f2 (c := 1) (by omega)).tr f3 (by omega), ?_⟩
          · rw [e1, bd, e2]
            exact e3
          · rw [← hst, hh]
            exact X3
        by_cases c1 : srt (Lt tp n p) = 0
        · rw [if_pos c1]
          exact fail 1 (by omega) (by unfold hsS; rw [if_pos c1])
        · rw [if_neg c1]
          by_cases c2 : (m : Int) = 4
          · rw [if_pos c2]
            exact fail 3 (by omega) (by unfold hsS; rw [if_neg c1, if_pos (by omega)])
          · rw [if_neg c2]
            obtain ⟨h2, e2, f2, X2⟩ := k_68 (F := F) hF hn ht (b_T_readHands_2 F fu) (m := m) (by omega) (c := Lt tp n p) (by omega) D X (fun u r z => by cases z; exact ⟨h4, by omega, rfl, c1⟩)
            have X2 : CB h2 tp n lf0 (hsS (Lt tp n) v p) := X2
            obtain ⟨h3, e3, f3, X3⟩ := ih (m + 1) fu h2 (hsS (Lt tp n) v p) (by omega) (by omega) (f2.2.2.2 D) X2 (fun v' q hq => by
              obtain ⟨-, -, a3, a4, -⟩ := hsS_ok hn ht W hq
              exact ⟨a3, by omega, fun z => by omega⟩)
            refine ⟨h3, ?_, f2.tr f3 (by omega), ?_⟩
            · rw [e2]
              exact e3
            · rw [← hst]
              exact X3
end
