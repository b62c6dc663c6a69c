/-! ===== trials: in the way, dig, years, laden or not ===== -/
/-- the first of the cells that makes it fewest -/
def fC (el : Nat → Bool) (mv : Nat → Int) : Nat → Int × Int
  | 0 => (-1000000, 100000000)
  | n + 1 => if el n = true ∧ mv n ≠ -1000000 ∧ mv n < (fC el mv n).2 then ((n : Int), mv n) else fC el mv n
theorem fC_r {el : Nat → Bool} {mv : Nat → Int} (hm : ∀ n, n < 24 → el n = true → mv n = -1000000 ∨ (0 ≤ mv n ∧ mv n < 100000000)) : ∀ n, n ≤ 24 → ((fC el mv n).1 = -1000000 ∧ (fC el mv n).2 = 100000000) ∨ (0 ≤ (fC el mv n).1 ∧ (fC el mv n).1 < 24 ∧ 0 ≤ (fC el mv n).2 ∧ (fC el mv n).2 < 100000000)
  | 0, _ => Or.inl ⟨rfl, rfl⟩
  | n + 1, hn => by
    have ih := fC_r hm n (by omega)
    unfold fC
    by_cases c : el n = true ∧ mv n ≠ -1000000 ∧ mv n < (fC el mv n).2
    · rw [if_pos c]
      have := hm n (by omega) c.1
      exact Or.inr ⟨by omega, by show (n : Int) < 24; omega, by show 0 ≤ mv n; omega, by show mv n < 100000000; omega⟩
    · rw [if_neg c]
      exact ih
/-- what the class keeps: the fewest, or NONE -/
def fw (p : Int × Int) : Int := if p.1 = -1000000 then -1000000 else p.2
/-- a trial's basin, changed -/
theorem CR.tr {h h' : MH} {P : Nat → Nat → Int} (X : CR h P) (c : Ch 29 31 h h') {v : Nat → Int} (B : Bx h' 29 v) : CR h' P := X.tri c B.2
/-- the class searches from the trial -/
theorem c_trial {F : Nat} (hF : 1000000 ≤ F) {h : MH} {P : Nat → Nat → Int} (E : Es h) (C : CR h P) {v : Nat → Int} (B : Bx h 29 v) (W : Wv v) : ∃ h', (∀ x : Option (Int32 × MH), onc h (some 17) 6 x = x) ∧ f_B_sinks (some 29) h = some (zI (vD v 0)) ∧ f_S_minutesToTurn F (some 17) (some 29) (zI (vD v 0)) h = some (zI (mT v 0), h') ∧ Ch 17 31 h h' ∧ CR h' P ∧ Bx h' 29 v := by
  obtain ⟨R, S⟩ := C.2.2.2.2.1
  obtain ⟨h', R', e, m, S', hf⟩ := s_toTurn (F := F) W (less := 0) (by omega) (by omega) hF (a := 29) (by omega) E B.1 S
  exact ⟨h', fun x => sr_on S x, s_B_sinks B.1.1 W, e, m.c.w (by omega) (by omega), C.srch m.c ⟨R', S'⟩, B.ch m.c (by omega) (by omega)⟩
section
variable {F : Nat} {P : Nat → Nat → Int}
/-- what the class tries for a cell -/
def dV (dg : Bool) (v : Nat → Int) (c : Nat) : Nat → Int := if dg then upI v (18 + c) 9 else upI v 13 (((v 13).toNat ^^^ 2 ^ c : Nat) : Int)
def dE (dg : Bool) (v : Nat → Int) (c : Nat) : Bool := dg || btN (v 13).toNat c == 1
theorem dV_W {v : Nat → Int} (W : Wv v) (dg : Bool) {c : Nat} (hc : c < 24) : Wv (dV dg v c) := by
  unfold dV
  cases dg with
  | false =>
    have w13 := W.2.2.2.2.2.1
    have h2 : 2 ^ c < 2 ^ 24 := Nat.pow_lt_pow_right (by omega) hc
    have := Nat.xor_lt_two_pow (x := (v 13).toNat) (y := 2 ^ c) (n := 24) (by omega) h2
    exact Wv_up W (Or.inr ⟨rfl, by omega, by omega⟩)
  | true =>
    obtain ⟨w1, w2, w3, w4, w5, w13, w14, w15, w16, w17, w18⟩ := W
    have n1 : ∀ q : Nat, q < 18 → upI v (18 + c) 9 q = v q := fun q hq => upI_n _ _ (by omega)
    refine ⟨by rw [if_pos rfl, n1 1 (by decide)]; exact w1, by rw [if_pos rfl, n1 2 (by decide)]; exact w2, by rw [if_pos rfl, n1 3 (by decide)]; exact w3, by rw [if_pos rfl, n1 4 (by decide)]; exact w4, fun i hi => ?_, by rw [if_pos rfl, n1 13 (by decide)]; exact w13, by rw [if_pos rfl, n1 14 (by decide)]; exact w14, by rw [if_pos rfl, n1 15 (by decide)]; exact w15, by rw [if_pos rfl, n1 16 (by decide)]; exact w16, by rw [if_pos rfl, n1 17 (by decide)]; exact w17, fun q hq => ?_⟩
    · rw [if_pos rfl] at hi ⊢
      rw [n1 4 (by decide)] at hi
      rw [n1 _ (by omega), n1 _ (by omega)]
      exact w5 i hi
    · rw [if_pos rfl]
      by_cases e : q = c
      · rw [e, upI_s]; omega
      · rw [upI_n _ _ (by omega)]; exact w18 q hq
theorem c_easiest10 (hF : 1000000 ≤ F) (W : Wv (P 6)) (Z : Wz (P 6)) (dg : Bool) {w : Int} (w1 : 0 ≤ w) (w2 : w < 2) : ∀ (d k fu : Nat) (h : MH), k + d = 24 → d < fu → Es h → CR h P →
    ∃ h', b_C_easiestCell_10 F fu (some 3) (b2 dg) (zI w) (zI (fC (dE dg (P 6)) (fun c => mT (dV dg (P 6) c) 0) k).1) (zI (fw (fC (dE dg (P 6)) (fun c => mT (dV dg (P 6) c) 0) k))) (zI k) h = some (zI (if w = 0 then (fC (dE dg (P 6)) (fun c => mT (dV dg (P 6) c) 0) 24).1 else fw (fC (dE dg (P 6)) (fun c => mT (dV dg (P 6) c) 0) 24)), h') ∧ Ch 17 31 h h' ∧ CR h' P := by
  have hm : ∀ n, n < 24 → dE dg (P 6) n = true → mT (dV dg (P 6) n) 0 = -1000000 ∨ (0 ≤ mT (dV dg (P 6) n) 0 ∧ mT (dV dg (P 6) n) 0 < 100000000) := fun n hn _ => mT_r (dV_W W dg hn) (by omega) (by omega)
  have w13 := W.2.2.2.2.2.1
  have w4 := W.2.2.2.1
  intro d
  induction d with
  | zero =>
    intro k fu h hk hf E C
    obtain ⟨fu, rfl⟩ : ∃ q, fu = q + 1 := ⟨fu - 1, by omega⟩
    refine ⟨h, ?_, Ch_0 _ _ h, C⟩
    have xw : zI w = (0 : Int32) ↔ w = 0 := zI_eq (b := 0) (by omega) (by omega) (by omega) (by omega)
    unfold b_C_easiestCell_10
    simp only [xw]
    simp (disch := omega) only [l24, zI_le]
    rw [if_pos (by omega), show k = 24 by omega]
    by_cases c : w = 0
    · rw [if_pos c, if_pos c]
    · rw [if_neg c, if_neg c]
  | succ d ih =>
    intro k fu h hk hf E C
    obtain ⟨fu, rfl⟩ : ∃ q, fu = q + 1 := ⟨fu - 1, by omega⟩
    obtain ⟨p, hp⟩ : ∃ p, p = fC (dE dg (P 6)) (fun c => mT (dV dg (P 6) c) 0) k := ⟨_, rfl⟩
    have hpr := fC_r hm k (by omega)
    rw [← hp] at hpr ⊢
    have hmk := mT_r (dV_W W dg (c := k) (by omega)) (less := 0) (by omega) (by omega)
    obtain ⟨m, hmm⟩ : ∃ m, m = mT (dV dg (P 6) k) 0 := ⟨_, rfl⟩
    have hstep : fC (dE dg (P 6)) (fun c => mT (dV dg (P 6) c) 0) (k + 1) = if dE dg (P 6) k = true ∧ m ≠ -1000000 ∧ m < p.2 then ((k : Int), m) else p := by
      rw [hmm, hp]
      rfl
    have B := C.2.2.2.2.2.1
    have x24 : (24 : Int32) ≤ zI (k : Int) ↔ 24 ≤ (k : Int) := zI_le (a := 24) (by omega) (by omega) (by omega) (by omega)
    have e135 : ∀ (a b : Int32) (g : MH), b_C_easiestCell_135 F (b_C_easiestCell_10 F fu) (some 3) (b2 dg) (zI w) a b (zI k) g = b_C_easiestCell_10 F fu (some 3) (b2 dg) (zI w) a b (zI ((k + 1 : Nat) : Int)) g := by
      intro a b g
      unfold b_C_easiestCell_135
      rw [l1, zI_add]
      rfl
    -- the trial is tried
    have t87 : ∀ g, Es g → CR g P → Bx g 29 (dV dg (P 6) k) → dE dg (P 6) k = true → ∃ h', b_C_easiestCell_87 F (b_C_easiestCell_10 F fu) (some 3) (b2 dg) (zI w) (zI p.1) (zI (fw p)) (zI k) g = some (zI (if w = 0 then (fC (dE dg (P 6)) (fun c => mT (dV dg (P 6) c) 0) 24).1 else fw (fC (dE dg (P 6)) (fun c => mT (dV dg (P 6) c) 0) 24)), h') ∧ Ch 17 31 g h' ∧ CR h' P := by
      intro g Eg Cg Bg hel
      obtain ⟨g1, on, es, em, c1, C1, B1⟩ := c_trial hF Eg Cg Bg (dV_W W dg (by omega))
      rw [← hmm] at hmk em
      obtain ⟨h', e2, c2, C2⟩ := ih (k + 1) fu g1 (by omega) (by omega) (c1.es (by omega) Eg) C1
      refine ⟨h', ?_, c1.tr c2, C2⟩
      rw [← e2, hstep]
      have xm : zI m = (-1000000 : Int32) ↔ m = -1000000 := zI_eq (b := -1000000) (by omega) (by omega) (by omega) (by omega)
      have hfr : -1000000 ≤ fw p ∧ fw p < 100000000 := by unfold fw; split <;> omega
      have xf : zI (fw p) = (-1000000 : Int32) ↔ fw p = -1000000 := zI_eq (b := -1000000) (by omega) (by omega) (by omega) (by omega)
      have xl : zI (fw p) ≤ zI m ↔ fw p ≤ m := zI_le (by omega) (by omega) (by omega) (by omega)
      unfold b_C_easiestCell_87 b_C_easiestCell_128
      rw [cg3 Cg.1, bd, cg5 Cg.1, bd, bd, b_on Bg.1.1, es, bd, on, em, bd]
      simp only [xm, xf, xl, e135]
      by_cases c1 : m = -1000000
      · rw [if_pos c1, if_neg (fun z => z.2.1 c1)]
      · rw [if_neg c1]
        by_cases c2 : p.1 = -1000000
        · have hfw : fw p = -1000000 := by unfold fw; rw [if_pos c2]
          have hp2 : p.2 = 100000000 := by omega
          rw [if_pos hfw, if_pos ⟨hel, c1, by omega⟩]
          have : fw ((k : Int), m) = m := by unfold fw; rw [if_neg (show ¬ (k : Int) = -1000000 by omega)]
          rw [this]
        · have hfw : fw p = p.2 := by unfold fw; rw [if_neg c2]
          rw [if_neg (by omega)]
          by_cases c3 : fw p ≤ m
          · rw [if_pos c3, if_neg (by omega)]
          · rw [if_neg c3, if_pos ⟨hel, c1, by omega⟩]
            have : fw ((k : Int), m) = m := by unfold fw; rw [if_neg (show ¬ (k : Int) = -1000000 by omega)]
            rw [this]
    -- the trial is made
    have t39 : dE dg (P 6) k = true → ∃ h', b_C_easiestCell_39 F (b_C_easiestCell_10 F fu) (some 3) (b2 dg) (zI w) (zI p.1) (zI (fw p)) (zI k) h = some (zI (if w = 0 then (fC (dE dg (P 6)) (fun c => mT (dV dg (P 6) c) 0) 24).1 else fw (fC (dE dg (P 6)) (fun c => mT (dV dg (P 6) c) 0) 24)), h') ∧ Ch 17 31 h h' ∧ CR h' P := by
      intro hel
      obtain ⟨h1, e1, c1, k1, B1⟩ := s_become (F := F) (a := 29) (b := 26) (by omega) (by omega) (by omega) C.2.2.2.2.2.2.1 B Z (by omega)
      have C1 := C.tr c1 B1
      unfold b_C_easiestCell_39
      rw [cg5 C.1, bd, cg4 C.1, bd, b_on C.2.2.2.2.2.2.1.choose_spec.choose_spec.choose_spec.1, e1, bd]
      simp only [b2_0]
      cases dg with
      | false =>
        have g7 : gfi h1 (some 29) [1] 7 = some (zI (P 6 13)) := (b_g B1.1.1).2.2.2.2.2.2.2.1
        have h2' : 2 ^ k < 2 ^ 24 := Nat.pow_lt_pow_right (by omega) (by omega)
        have hx : zI (P 6 13) ^^^ ((1 : Int32) <<< (zI (k : Int) &&& 31)) = zI (((P 6 13).toNat ^^^ 2 ^ k : Nat) : Int) := by
          obtain ⟨m0, hm0⟩ : ∃ m0 : Nat, P 6 13 = m0 := ⟨(P 6 13).toNat, by omega⟩
          rw [hm0, Int.toNat_natCast, oneN (by omega), zN, zN, nI_xor (by omega) (by omega)]
        rw [if_pos rfl, cg5 C1.1, bd, g7, bd, hx, bO_p7 B1.1.1, bd]
        have cu : Ch 29 31 h1 (mj_up h1 29 (bO (upI (P 6) 13 (((P 6 13).toNat ^^^ 2 ^ k : Nat) : Int)) 29)) := Ch_up h1 _ (by omega) (by omega)
        have B2 : Bx (mj_up h1 29 (bO (upI (P 6) 13 (((P 6 13).toNat ^^^ 2 ^ k : Nat) : Int)) 29)) 29 (dV false (P 6) k) := bx_up W B1 (upI_n _ _ (by omega)) (fun q hq => ⟨upI_n _ _ (by omega), upI_n _ _ (by omega)⟩) (fun q => upI_n _ _ (by omega))
        obtain ⟨h', e2, c2, C2⟩ := t87 _ ((c1.tr cu).es (by omega) E) (C1.tr cu B2) B2 hel
        exact ⟨h', e2, ((c1.tr cu).w (by omega) (by omega)).tr c2, C2⟩
      | true =>
        have g9 : gfr h1 (some 29) [1] 9 = some (some 30) := (b_g B1.1.1).2.2.2.2.2.2.2.2.2.1
        have ep := s_put B1.1.2.1 (by omega) (i := (k : Int)) (x := 9) (by omega) (by omega) (by omega)
        rw [Int.toNat_natCast] at ep
        rw [if_neg (by decide), cg5 C1.1, bd, g9, bd, l9, show (some 30 : Option Nat) = some (29 + 1) from rfl, ep, bd]
        have ef : upI (fun j => P 6 (18 + j)) k 9 = (fun j => upI (P 6) (18 + k) 9 (18 + j)) := by
          funext j
          unfold upI
          by_cases e : j = k
          · rw [if_pos e, if_pos (by omega)]
          · rw [if_neg e, if_neg (by omega)]
        rw [ef]
        have cu : Ch 29 31 h1 (mj_up h1 (29 + 1) (aZ 24 (fun j => upI (P 6) (18 + k) 9 (18 + j)))) := Ch_up h1 _ (by omega) (by omega)
        have B2 : Bx (mj_up h1 (29 + 1) (aZ 24 (fun j => upI (P 6) (18 + k) 9 (18 + j)))) 29 (dV true (P 6) k) := Bx_dep W B1 (v' := upI (P 6) (18 + k) 9) (fun q hq => upI_n _ _ (by omega)) (fun q hq => by rw [upI_n _ _ (by omega)]; exact Z q hq)
        obtain ⟨h', e2, c2, C2⟩ := t87 _ ((c1.tr cu).es (by omega) E) (C1.tr cu B2) B2 hel
        exact ⟨h', e2, ((c1.tr cu).w (by omega) (by omega)).tr c2, C2⟩
    -- not tried
    have tskip : dE dg (P 6) k = false → ∃ h', b_C_easiestCell_135 F (b_C_easiestCell_10 F fu) (some 3) (b2 dg) (zI w) (zI p.1) (zI (fw p)) (zI k) h = some (zI (if w = 0 then (fC (dE dg (P 6)) (fun c => mT (dV dg (P 6) c) 0) 24).1 else fw (fC (dE dg (P 6)) (fun c => mT (dV dg (P 6) c) 0) 24)), h') ∧ Ch 17 31 h h' ∧ CR h' P := by
      intro hel
      rw [e135]
      have := ih (k + 1) fu h (by omega) (by omega) E C
      rw [hstep, if_neg (fun z => by rw [hel] at z; cases z.1)] at this
      exact this
    have hu : b_C_easiestCell_10 F (fu + 1) (some 3) (b2 dg) (zI w) (zI p.1) (zI (fw p)) (zI k) h = if dE dg (P 6) k = true then b_C_easiestCell_39 F (b_C_easiestCell_10 F fu) (some 3) (b2 dg) (zI w) (zI p.1) (zI (fw p)) (zI k) h else b_C_easiestCell_135 F (b_C_easiestCell_10 F fu) (some 3) (b2 dg) (zI w) (zI p.1) (zI (fw p)) (zI k) h := by
      have g7 : gfi h (some 26) [1] 7 = some (zI (P 6 13)) := (b_g B.1.1).2.2.2.2.2.2.2.1
      have hbit : f_C_bit (zI (P 6 13)) (zI (k : Int)) = zI (btN (P 6 13).toNat k : Nat) := by
        obtain ⟨m0, hm0⟩ : ∃ m0 : Nat, P 6 13 = m0 := ⟨(P 6 13).toNat, by omega⟩
        show ((zI (P 6 13) >>> (zI (k : Int) &&& 31)) &&& (1 : Int32)) = _
        rw [hm0, Int.toNat_natCast, zN m0, bitN (by omega) (by omega), ← zN]
      conv => lhs; unfold b_C_easiestCell_10
      simp only [x24, b2_0]
      rw [if_neg (show ¬ 24 ≤ (k : Int) by omega)]
      unfold dE
      cases dg with
      | true => rw [if_neg (by decide), if_pos (by rfl)]
      | false =>
        rw [if_pos rfl, cg4 C.1, bd, g7, bd, hbit]
        rcases btN_r (P 6 13).toNat k with z | z
        · rw [z, if_pos (by decide), if_neg (by decide)]
        · rw [z, if_neg (by decide), if_pos (by decide)]
    rw [hu]
    cases hel : dE dg (P 6) k with
    | true => rw [if_pos rfl]; exact t39 hel
    | false => rw [if_neg (by decide)]; exact tskip hel
end
