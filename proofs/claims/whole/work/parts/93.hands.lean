/-! ===== what is told: the rest ===== -/
def WP (v : Nat → Int) : Prop := Wv v ∧ Wz v ∧ v 17 = 0 ∧ v 0 = 1 ∧ onN (v 13).toNat ≤ 4
def srt (c : Int) : Int := if c = 115 then 1 else if c = 112 then 2 else if c = 114 then 3 else if c = 104 then 4 else if c = 108 then 5 else 0
theorem srt_r (c : Int) : 0 ≤ srt c ∧ srt c ≤ 5 := by
  unfold srt
  (repeat' split) <;> omega
noncomputable def hsS (L : Nat → Int) (v : Nat → Int) (p : Nat) : PS := if srt (L p) = 0 then .error (1, (p : Int)) else if v 4 = 4 then .error (3, (p : Int)) else (match sL L 59 (sN L (9 + (v 4).toNat) 1 20 (.ok (v, p + 1))) with
  | .ok (v', q) => .ok (upI (upI v' (5 + (v 4).toNat) (srt (L p))) 4 (v 4 + 1), q)
  | .error e => .error e)
noncomputable def stp (L : Nat → Int) (v : Nat → Int) (p : Nat) : PS := if L p = 109 ∧ v 4 = 0 then (if onN (v 13).toNat = 4 then .error (3, (p : Int)) else moB L v p) else hsS L v p
noncomputable def pR (L : Nat → Int) : Nat → PS → PS
  | 0 => fun S => S
  | d + 1 => fun S => match S with
    | .ok (v, p) => if L p = -1 then .ok (v, p) else pR L d (stp L v p)
    | .error e => .error e
theorem WP_up {v : Nat → Int} (W : WP v) {k : Nat} {x : Int} (h : (5 ≤ k ∧ k ≤ 12 ∧ (∀ i : Nat, (i : Int) < v 4 → k ≠ 5 + i ∧ k ≠ 9 + i))) : WP (upI v k x) := by
  obtain ⟨⟨w1, w2, w3, w4, w5, w13, w14, w15, w16, w17, w18⟩, Z, z17, z0, o⟩ := W
  have n0 : ∀ q, q ≠ k → upI v k x q = v q := fun q hq => upI_n _ _ hq
  refine ⟨⟨?_, ?_, ?_, ?_, ?_, ?_, ?_, ?_, ?_, ?_, ?_⟩, fun q hq => by rw [n0 q (by omega)]; exact Z q hq, by rw [n0 17 (by omega)]; exact z17, by rw [n0 0 (by omega)]; exact z0, by rw [n0 13 (by omega)]; exact o⟩
  · rw [n0 1 (by omega)]; exact w1
  · rw [n0 2 (by omega)]; exact w2
  · rw [n0 3 (by omega)]; exact w3
  · rw [n0 4 (by omega)]; exact w4
  · intro i hi
    rw [n0 4 (by omega)] at hi
    have := h.2.2 i hi
    rw [n0 (5 + i) (by omega), n0 (9 + i) (by omega)]
    exact w5 i hi
  · rw [n0 13 (by omega)]; exact w13
  · rw [n0 14 (by omega)]; exact w14
  · rw [n0 15 (by omega)]; exact w15
  · rw [n0 16 (by omega)]; exact w16
  · rw [n0 17 (by omega)]; exact w17
  · intro q hq
    rw [n0 (18 + q) (by omega)]
    exact w18 q hq
theorem WP_4 {v : Nat → Int} (W : WP v) (h4 : v 4 < 4) (h5 : 1 ≤ v (5 + (v 4).toNat) ∧ v (5 + (v 4).toNat) ≤ 5 ∧ 1 ≤ v (9 + (v 4).toNat) ∧ v (9 + (v 4).toNat) ≤ 20) : WP (upI v 4 (v 4 + 1)) := by
  obtain ⟨⟨w1, w2, w3, w4, w5, w13, w14, w15, w16, w17, w18⟩, Z, z17, z0, o⟩ := W
  have n0 : ∀ q, q ≠ 4 → upI v 4 (v 4 + 1) q = v q := fun q hq => upI_n _ _ hq
  refine ⟨⟨?_, ?_, ?_, ?_, ?_, ?_, ?_, ?_, ?_, ?_, ?_⟩, fun q hq => by rw [n0 q (by omega)]; exact Z q hq, by rw [n0 17 (by omega)]; exact z17, by rw [n0 0 (by omega)]; exact z0, by rw [n0 13 (by omega)]; exact o⟩
  · rw [n0 1 (by omega)]; exact w1
  · rw [n0 2 (by omega)]; exact w2
  · rw [n0 3 (by omega)]; exact w3
  · rw [upI_s]; omega
  · intro i hi
    rw [upI_s] at hi
    rw [n0 (5 + i) (by omega), n0 (9 + i) (by omega)]
    by_cases c : (i : Int) < v 4
    · exact w5 i c
    · rw [show i = (v 4).toNat by omega]
      exact h5
  · rw [n0 13 (by omega)]; exact w13
  · rw [n0 14 (by omega)]; exact w14
  · rw [n0 15 (by omega)]; exact w15
  · rw [n0 16 (by omega)]; exact w16
  · rw [n0 17 (by omega)]; exact w17
  · intro q hq
    rw [n0 (18 + q) (by omega)]
    exact w18 q hq
theorem WP_13 {v : Nat → Int} (W : WP v) {x : Nat} (h1 : x < 16777216) (h2 : onN x ≤ 4) : WP (upI v 13 (x : Int)) := by
  obtain ⟨⟨w1, w2, w3, w4, w5, w13, w14, w15, w16, w17, w18⟩, Z, z17, z0, o⟩ := W
  have n0 : ∀ q, q ≠ 13 → upI v 13 (x : Int) q = v q := fun q hq => upI_n _ _ hq
  refine ⟨⟨?_, ?_, ?_, ?_, ?_, ?_, ?_, ?_, ?_, ?_, ?_⟩, fun q hq => by rw [n0 q (by omega)]; exact Z q hq, by rw [n0 17 (by omega)]; exact z17, by rw [n0 0 (by omega)]; exact z0, by rw [upI_s, Int.toNat_natCast]; exact h2⟩
  · rw [n0 1 (by omega)]; exact w1
  · rw [n0 2 (by omega)]; exact w2
  · rw [n0 3 (by omega)]; exact w3
  · rw [n0 4 (by omega)]; exact w4
  · intro i hi
    rw [n0 4 (by omega)] at hi
    rw [n0 (5 + i) (by omega), n0 (9 + i) (by omega)]
    exact w5 i hi
  · rw [upI_s]; omega
  · rw [n0 14 (by omega)]; exact w14
  · rw [n0 15 (by omega)]; exact w15
  · rw [n0 16 (by omega)]; exact w16
  · rw [n0 17 (by omega)]; exact w17
  · intro q hq
    rw [n0 (18 + q) (by omega)]
    exact w18 q hq
section
variable {tp : Nat → Int} {n : Int}
theorem moB_ok (hn : 0 ≤ n ∧ n ≤ 120) (ht : ∀ k : Nat, (k : Int) < n → 0 ≤ tp k ∧ tp k ≤ 255) {v : Nat → Int} {p : Nat} (W : WP v) (ho : onN (v 13).toNat < 4) {v' : Nat → Int} {q : Nat} (h : moB (Lt tp n) v p = .ok (v', q)) : p < q ∧ (q : Int) ≤ n ∧ WP v' ∧ v' 4 = v 4 ∧ onN (v' 13).toNat = onN (v 13).toNat + 1 := by
  unfold moB at h
  cases hN : sN (Lt tp n) 13 0 23 (.ok (v, p + 1)) with
  | error e => rw [hN] at h; cases h
  | ok ur =>
    obtain ⟨u, r⟩ := ur
    rw [hN] at h
    obtain ⟨v0, p0, z1, ok, z2, z3⟩ := sN_inv hN
    cases z1
    have hin := dcN_in ht (p + 1) (by rcases ok.1 with z | z <;> omega)
    have h13 : u 13 = vlN (Lt tp n) (p + 1) := by rw [z2, upI_s]
    obtain ⟨m13, hm⟩ : ∃ m13 : Nat, v 13 = m13 := ⟨(v 13).toNat, by have := W.1.2.2.2.2.2.1; omega⟩
    obtain ⟨x, hx⟩ : ∃ x : Nat, vlN (Lt tp n) (p + 1) = x := ⟨(vlN (Lt tp n) (p + 1)).toNat, by have := ok.2; omega⟩
    have hx24 : x < 24 := by have := ok.2; omega
    have w13 := W.1.2.2.2.2.2.1
    dsimp only at h
    rw [h13, hm, hx, Int.toNat_natCast, Int.toNat_natCast] at h
    rw [hm, Int.toNat_natCast] at ho
    by_cases cb : btN m13 x = 1
    · rw [if_pos cb] at h; cases h
    · rw [if_neg cb] at h
      have b0 : btN m13 x = 0 := by have := btN_r m13 x; omega
      obtain ⟨r', z4, z5, z6⟩ := sL_inv h
      have e := Except.ok.inj z4
      have e1 : upI v 13 ((m13 ||| 2 ^ x : Nat) : Int) = v' := congrArg Prod.fst e
      have e2 : r = r' := congrArg Prod.snd e
      have hl := Lt_r ht r'
      have hq : (r' : Int) < n := hl.2.2 (by omega)
      have h2 : 2 ^ x < 2 ^ 24 := Nat.pow_lt_pow_right (by omega) hx24
      have hor : m13 ||| 2 ^ x < 2 ^ 24 := Nat.or_lt_two_pow (by omega) h2
      have hon : onN (m13 ||| 2 ^ x) = onN m13 + 1 := by
        rw [orN b0] at hor ⊢
        exact onN_add hx24 b0 (by omega)
      rw [← e1]
      refine ⟨by omega, by omega, WP_13 W (by omega) (by omega), upI_n _ _ (by decide), ?_⟩
      rw [upI_s, Int.toNat_natCast, hm, Int.toNat_natCast]
      exact hon
theorem hsS_ok (hn : 0 ≤ n ∧ n ≤ 120) (ht : ∀ k : Nat, (k : Int) < n → 0 ≤ tp k ∧ tp k ≤ 255) {v : Nat → Int} {p : Nat} (W : WP v) {v' : Nat → Int} {q : Nat} (h : hsS (Lt tp n) v p = .ok (v', q)) : p < q ∧ (q : Int) ≤ n ∧ WP v' ∧ v' 4 = v 4 + 1 ∧ onN (v' 13).toNat = onN (v 13).toNat := by
  have w4 := W.1.2.2.2.1
  have hs := srt_r (Lt tp n p)
  unfold hsS at h
  by_cases c1 : srt (Lt tp n p) = 0
  · rw [if_pos c1] at h; cases h
  · rw [if_neg c1] at h
    by_cases c2 : v 4 = 4
    · rw [if_pos c2] at h; cases h
    · rw [if_neg c2] at h
      cases hS : sL (Lt tp n) 59 (sN (Lt tp n) (9 + (v 4).toNat) 1 20 (.ok (v, p + 1))) with
      | error e => rw [hS] at h; cases h
      | ok ur =>
        obtain ⟨u, r⟩ := ur
        rw [hS] at h
        obtain ⟨r', z4, z5, z6⟩ := sL_inv hS
        obtain ⟨v0, p0, z1, ok, z2, z3⟩ := sN_inv z4
        cases z1
        have hin := dcN_in ht (p + 1) (by rcases ok.1 with z | z <;> omega)
        have hl := Lt_r ht r'
        have hq : (r' : Int) < n := hl.2.2 (by omega)
        have e := Except.ok.inj h
        have e1 : upI (upI u (5 + (v 4).toNat) (srt (Lt tp n p))) 4 (v 4 + 1) = v' := congrArg Prod.fst e
        have e2 : r = q := congrArg Prod.snd e
        have U1 : WP u := by rw [z2]; exact WP_up W ⟨by omega, by omega, fun i hi => by omega⟩
        have u4 : u 4 = v 4 := by rw [z2]; exact upI_n _ _ (by omega)
        obtain ⟨y, hy⟩ : ∃ y, y = upI u (5 + (v 4).toNat) (srt (Lt tp n p)) := ⟨_, rfl⟩
        have y4 : y 4 = v 4 := by rw [hy, upI_n _ _ (by omega)]; exact u4
        have U2 : WP y := by rw [hy]; exact WP_up U1 ⟨by omega, by omega, fun i hi => by omega⟩
        have y5 : y (5 + (v 4).toNat) = srt (Lt tp n p) := by rw [hy, upI_s]
        have y9 : y (9 + (v 4).toNat) = vlN (Lt tp n) (p + 1) := by rw [hy, upI_n _ _ (by omega), z2, upI_s]
        have U3 : WP (upI y 4 (y 4 + 1)) := WP_4 U2 (by omega) (by
          rw [y4, y5, y9]
          have := ok.2
          omega)
        rw [← hy] at e1
        rw [y4] at U3
        rw [← e1]
        refine ⟨by omega, by omega, U3, upI_s _ _ _, ?_⟩
        rw [upI_n _ _ (by decide), hy, upI_n _ _ (by omega), z2, upI_n _ _ (by omega)]
theorem stp_ok (hn : 0 ≤ n ∧ n ≤ 120) (ht : ∀ k : Nat, (k : Int) < n → 0 ≤ tp k ∧ tp k ≤ 255) {v : Nat → Int} {p : Nat} (W : WP v) {v' : Nat → Int} {q : Nat} (h : stp (Lt tp n) v p = .ok (v', q)) : p < q ∧ (q : Int) ≤ n ∧ WP v' := by
  unfold stp at h
  by_cases c : Lt tp n p = 109 ∧ v 4 = 0
  · rw [if_pos c] at h
    by_cases c2 : onN (v 13).toNat = 4
    · rw [if_pos c2] at h; cases h
    · rw [if_neg c2] at h
      have := moB_ok hn ht W (by have := W.2.2.2.2; omega) h
      exact ⟨this.1, this.2.1, this.2.2.1⟩
  · rw [if_neg c] at h
    have := hsS_ok hn ht W h
    exact ⟨this.1, this.2.1, this.2.2.1⟩
theorem pR_fix (hn : 0 ≤ n ∧ n ≤ 120) (ht : ∀ k : Nat, (k : Int) < n → 0 ≤ tp k ∧ tp k ≤ 255) : ∀ (d : Nat) (S : PS), (∀ v p, S = .ok (v, p) → WP v ∧ n ≤ p + d) → pR (Lt tp n) (d + 1) S = pR (Lt tp n) d S := by
  intro d
  induction d with
  | zero =>
    intro S hS
    cases S with
    | error e => rfl
    | ok vp =>
      obtain ⟨v, p⟩ := vp
      have hb := (hS v p rfl).2
      have : Lt tp n p = -1 := by
        unfold Lt
        rw [if_neg (by omega)]
      show (if Lt tp n p = -1 then _ else _) = _
      rw [if_pos this]
      rfl
  | succ d ih =>
    intro S hS
    cases S with
    | error e => rfl
    | ok vp =>
      obtain ⟨v, p⟩ := vp
      obtain ⟨W, hb⟩ := hS v p rfl
      show (if Lt tp n p = -1 then (.ok (v, p) : PS) else pR (Lt tp n) (d + 1) (stp (Lt tp n) v p)) = (if Lt tp n p = -1 then (.ok (v, p) : PS) else pR (Lt tp n) d (stp (Lt tp n) v p))
      by_cases c : Lt tp n p = -1
      · rw [if_pos c, if_pos c]
      · rw [if_neg c, if_neg c]
        refine ih _ (fun v' q hq => ?_)
        obtain ⟨a1, a2, a3⟩ := stp_ok hn ht W hq
        exact ⟨a3, by omega⟩
theorem pR_st (hn : 0 ≤ n ∧ n ≤ 120) (ht : ∀ k : Nat, (k : Int) < n → 0 ≤ tp k ∧ tp k ≤ 255) {v : Nat → Int} {p : Nat} (W : WP v) (h : Lt tp n p ≠ -1) : pR (Lt tp n) 200 (stp (Lt tp n) v p) = pR (Lt tp n) 200 (.ok (v, p)) := by
  have e := pR_fix hn ht 200 (.ok (v, p)) (fun v' q hq => by cases hq; exact ⟨W, by omega⟩)
  rw [← e]
  show _ = (if Lt tp n p = -1 then (.ok (v, p) : PS) else pR (Lt tp n) 200 (stp (Lt tp n) v p))
  rw [if_neg h]
theorem pR_end {v : Nat → Int} {p : Nat} {L : Nat → Int} (h : L p = -1) (d : Nat) : pR L d (.ok (v, p)) = .ok (v, p) := by
  cases d with
  | zero => rfl
  | succ d =>
    show (if L p = -1 then (.ok (v, p) : PS) else _) = _
    rw [if_pos h]
theorem pR_err {e : Int × Int} {L : Nat → Int} (d : Nat) : pR L d (.error e) = .error e := by
  cases d <;> rfl
end
section
variable {tp : Nat → Int} {n lf0 : Int} {F : Nat}
theorem k_mo (hF : 100 ≤ F) (hn : 0 ≤ n ∧ n ≤ 120) (ht : ∀ k : Nat, (k : Int) < n → 0 ≤ tp k ∧ tp k ≤ 255) : ∀ (d m fu : Nat) (h : MH) (S : PS), m + d = 5 → d < fu → CH h tp n lf0 S → (∀ v p, S = .ok (v, p) → WP v ∧ v 4 = 0 ∧ onN (v 13).toNat = m) → ∃ h' S', b_T_readMoored_2 F fu (some 8) (some 29) (zI (m : Int)) h = some h' ∧ Fh h h' ∧ CH h' tp n lf0 S' ∧ pR (Lt tp n) 200 S' = pR (Lt tp n) 200 S ∧ ∀ v p, S' = .ok (v, p) → WP v ∧ v 4 = 0 ∧ Lt tp n p ≠ 109 := by
  intro d
  induction d with
  | zero =>
    intro m fu h S hm hf X hS
    obtain ⟨fu, rfl⟩ : ∃ q, fu = q + 1 := ⟨fu - 1, by omega⟩
    have h5 : m = 5 := by omega
    subst h5
    refine ⟨h, S, ?_, Fh_0 h, X, rfl, fun v p hS' => ?_⟩
    · unfold b_T_readMoored_2
      rw [if_pos (by decide)]
    · obtain ⟨a1, a2, a3⟩ := hS v p hS'
      have := a1.2.2.2.2
      omega
  | succ d ih =>
    intro m fu h S hm hf X hS
    obtain ⟨fu, rfl⟩ : ∃ q, fu = q + 1 := ⟨fu - 1, by omega⟩
    have x4 : (4 : Int32) < zI (m : Int) ↔ 4 < (m : Int) := zI_lt (a := 4) (by omega) (by omega) (by omega) (by omega)
    have x4' : zI (m : Int) = (4 : Int32) ↔ (m : Int) = 4 := zI_eq (b := 4) (by omega) (by omega) (by omega) (by omega)
    cases S with
    | error e =>
      obtain ⟨p, Y, -, r1, r2⟩ := X.1.err
      have x0 : zI e.1 = (0 : Int32) ↔ e.1 = 0 := zI_eq (b := 0) (by omega) (by omega) (by omega) (by omega)
      refine ⟨h, .error e, ?_, Fh_0 h, X, rfl, fun v p z => by cases z⟩
      unfold b_T_readMoored_2
      simp only [x4]
      rw [if_neg (by omega), (t_g Y).2, bd]
      simp only [x0]
      rw [if_neg (by omega)]
    | ok vp =>
      obtain ⟨v, p⟩ := vp
      obtain ⟨W, h4, ho⟩ := hS v p rfl
      obtain ⟨fp, Y, b⟩ := X.1.place
      have hl := Lt_r ht p
      have xm : zI (Lt tp n p) = (109 : Int32) ↔ Lt tp n p = 109 := zI_eq (b := 109) (by omega) (by omega) (by omega) (by omega)
      have w13 := W.1.2.2.2.2.2.1
      have pre : b_T_readMoored_2 F (fu + 1) (some 8) (some 29) (zI (m : Int)) h = if Lt tp n p = 109 then (if (m : Int) = 4 then (Option.bind (f_T_fail (some 8) (zI 3) (zI (p : Int)) h) fun h13 => b_T_readMoored_41 F (b_T_readMoored_2 F fu) (some 8) (some 29) (zI (m : Int)) h13) else b_T_readMoored_41 F (b_T_readMoored_2 F fu) (some 8) (some 29) (zI (m : Int)) h) else some h := by
        conv => lhs; unfold b_T_readMoored_2
        simp only [x4]
        rw [if_neg (by omega), (t_g Y).2, bd, if_pos (show zI 0 = (0 : Int32) from rfl), (t_g Y).1, bd, X.on, t_la Y hn (by omega), bd]
        simp only [xm, x4']
        rw [bd, X.on]
        rfl
      rw [pre]
      by_cases c : Lt tp n p = 109
      · rw [if_pos c]
        have hst := pR_st hn ht (p := p) W (by omega)
        by_cases cm : (m : Int) = 4
        · obtain ⟨h1, e1, c1, Y1⟩ := t_fail0 Y 3 (p : Int)
          have X1 : CH h1 tp n lf0 (.error (3, (p : Int))) := ⟨TS.mkE Y1 b (by omega) (by omega), X.2.1.ch c1 (by omega) (by omega), fun v p z => by cases z⟩
          obtain ⟨h2, e2, f2, X2⟩ := k_41 (F := F) hF hn ht (b_T_readMoored_2 F fu) (m : Int) X1 (fun v p z => by cases z)
          obtain ⟨h3, S3, e3, f3, X3, p3, q3⟩ := ih (m + 1) fu h2 (.error (3, (p : Int))) (by omega) (by omega) X2 (fun v p z => by cases z)
          refine ⟨h3, S3, ?_, (c1.fh (by omega)).tr (f2.tr f3), X3, ?_, q3⟩
          · rw [if_pos cm, e1, bd, e2]
            exact e3
          · rw [p3, ← hst]
            unfold stp
            rw [if_pos ⟨c, h4⟩, if_pos (by omega)]
        · obtain ⟨h2, e2, f2, X2⟩ := k_41 (F := F) hF hn ht (b_T_readMoored_2 F fu) (m : Int) X (fun u r z => by cases z; exact ⟨c, w13⟩)
          have X2 : CH h2 tp n lf0 (moB (Lt tp n) v p) := X2
          obtain ⟨h3, S3, e3, f3, X3, p3, q3⟩ := ih (m + 1) fu h2 (moB (Lt tp n) v p) (by omega) (by omega) X2 (fun v' q hq => by
            obtain ⟨-, -, a3, a4, a5⟩ := moB_ok hn ht W (by omega) hq
            exact ⟨a3, by omega, by omega⟩)
          refine ⟨h3, S3, ?_, f2.tr f3, X3, ?_, q3⟩
          · rw [if_neg cm, e2]
            exact e3
          · rw [p3, ← hst]
            unfold stp
            rw [if_pos ⟨c, h4⟩, if_neg (by omega)]
      · rw [if_neg c]
        exact ⟨h, .ok (v, p), rfl, Fh_0 h, X, rfl, fun u r z => by cases z; exact ⟨W, h4, c⟩⟩
end
/-! hands -/
theorem h_init {h : MH} {p0 c : Nat} {x0 y0 z0 : Int32} (H : h.1 p0 = oB c [.int x0, .int y0, .int z0]) (hc : [2, 3, 4, 7, 8].contains c = true) (a b k : Int32) : f_H_init (some p0) a b k h = some (mj_up h p0 (oB c [.int a, .int b, .int k])) := by
  have e1 : pfv h (some p0) [2, 3, 4, 7, 8] 0 (.int a) = some (mj_up h p0 (oB c [.int a, .int y0, .int z0])) := pfv_o H (show 0 < 3 by omega) hc
  have e2 : pfv (mj_up h p0 (oB c [.int a, .int y0, .int z0])) (some p0) [2, 3, 4, 7, 8] 1 (.int b) = some (mj_up h p0 (oB c [.int a, .int b, .int z0])) := by
    have := pfv_o (h := mj_up h p0 (oB c [.int a, .int y0, .int z0])) (a := p0) (k := 1) (v := .int b) (c := c) (fs := [.int a, .int y0, .int z0]) (by rw [up_get, if_pos rfl]) (show 1 < 3 by omega) hc
    rw [up_up] at this
    exact this
  have e3 : pfv (mj_up h p0 (oB c [.int a, .int b, .int z0])) (some p0) [2, 3, 4, 7, 8] 2 (.int k) = some (mj_up h p0 (oB c [.int a, .int b, .int k])) := by
    have := pfv_o (h := mj_up h p0 (oB c [.int a, .int b, .int z0])) (a := p0) (k := 2) (v := .int k) (c := c) (fs := [.int a, .int b, .int z0]) (by rw [up_get, if_pos rfl]) (show 2 < 3 by omega) hc
    rw [up_up] at this
    exact this
  unfold f_H_init
  rw [bd, e1, bd, e2, bd, e3]
  rfl
theorem k_hand {h : MH} {c s : Int} (hc : srt c = s) (hs : s ≠ 0) (n x : Int) : ∃ h', f_T_handOf (zI c) (zI n) (zI x) h = some (some h.2.1, h') ∧ h'.1 h.2.1 = hC s n x ∧ (∀ j, j ≠ h.2.1 → h'.1 j = h.1 j) ∧ h'.2.1 = h.2.1 + 1 ∧ h'.2.2 = h.2.2 + 3 := by
  have mk : ∀ (ci : Nat) (k : Int32), [2, 3, 4, 7, 8].contains ci = true → ∃ h', f_H_init (some h.2.1) (zI n) (zI x) k (newo h ci [.int 0, .int 0, .int 0]) = some h' ∧ h'.1 h.2.1 = oB ci [.int (zI n), .int (zI x), .int k] ∧ (∀ j, j ≠ h.2.1 → h'.1 j = h.1 j) ∧ h'.2.1 = h.2.1 + 1 ∧ h'.2.2 = h.2.2 + 3 := by
    intro ci k hci
    have H : (newo h ci [.int 0, .int 0, .int 0]).1 h.2.1 = oB ci [.int 0, .int 0, .int 0] := by
      show (if h.2.1 = h.2.1 then _ else _) = _
      rw [if_pos rfl]
    refine ⟨_, h_init H hci _ _ _, by rw [up_get, if_pos rfl], fun j hj => ?_, rfl, rfl⟩
    rw [up_get, if_neg hj]
    show (if j = h.2.1 then _ else _) = _
    rw [if_neg hj]
  have hcc : c = 115 ∨ c = 112 ∨ c = 114 ∨ c = 104 ∨ c = 108 := by
    unfold srt at hc
    by_cases a1 : c = 115
    · exact Or.inl a1
    by_cases a2 : c = 112
    · exact Or.inr (Or.inl a2)
    by_cases a3 : c = 114
    · exact Or.inr (Or.inr (Or.inl a3))
    by_cases a4 : c = 104
    · exact Or.inr (Or.inr (Or.inr (Or.inl a4)))
    by_cases a5 : c = 108
    · exact Or.inr (Or.inr (Or.inr (Or.inr a5)))
    rw [if_neg a1, if_neg a2, if_neg a3, if_neg a4, if_neg a5] at hc
    exact absurd hc.symm hs
  rcases hcc with rfl | rfl | rfl | rfl | rfl
  · obtain ⟨h', e, q1, q2, q3, q4⟩ := mk 8 3 rfl
    have hs1 : s = 1 := hc.symm
    subst hs1
    refine ⟨h', ?_, q1, q2, q3, q4⟩
    unfold f_T_handOf f_Sw_init
    rw [if_neg (by decide), if_neg (by decide), if_neg (by decide), if_pos (by decide), show newO h 8 = some (newo h 8 [.int 0, .int 0, .int 0]) from rfl, bd, e]
    rfl
  · obtain ⟨h', e, q1, q2, q3, q4⟩ := mk 3 15 rfl
    have hs1 : s = 2 := hc.symm
    subst hs1
    refine ⟨h', ?_, q1, q2, q3, q4⟩
    unfold f_T_handOf f_Po_init f_Sw_init
    rw [if_neg (by decide), if_pos (by decide), show newO h 3 = some (newo h 3 [.int 0, .int 0, .int 0]) from rfl, bd, e]
    rfl
  · obtain ⟨h', e, q1, q2, q3, q4⟩ := mk 4 51 rfl
    have hs1 : s = 3 := hc.symm
    subst hs1
    refine ⟨h', ?_, q1, q2, q3, q4⟩
    unfold f_T_handOf f_Ro_init f_Sw_init
    rw [if_neg (by decide), if_neg (by decide), if_pos (by decide), show newO h 4 = some (newo h 4 [.int 0, .int 0, .int 0]) from rfl, bd, e]
    rfl
  · obtain ⟨h', e, q1, q2, q3, q4⟩ := mk 7 192 rfl
    have hs1 : s = 4 := hc.symm
    subst hs1
    refine ⟨h', ?_, q1, q2, q3, q4⟩
    unfold f_T_handOf f_Sh_init
    rw [if_pos (by decide), show newO h 7 = some (newo h 7 [.int 0, .int 0, .int 0]) from rfl, bd, e]
    rfl
  · obtain ⟨h', e, q1, q2, q3, q4⟩ := mk 2 192 rfl
    have hs1 : s = 5 := hc.symm
    subst hs1
    refine ⟨h', ?_, q1, q2, q3, q4⟩
    unfold f_T_handOf f_Lf_init f_Sh_init
    rw [if_neg (by decide), if_neg (by decide), if_neg (by decide), if_neg (by decide), show newO h 2 = some (newo h 2 [.int 0, .int 0, .int 0]) from rfl, bd, e]
    rfl
