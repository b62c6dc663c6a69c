/-! ===== seen: in how many ways ===== -/
theorem go_mod {u v : Nat → Int} (h : ∀ q, q ≠ 17 → u q = v q) (h17 : u 17 % 3 = v 17 % 3) {i : Nat} (hi : i < 4) (m less : Int) : (goV u i m less).map ndV = (goV v i m less).map ndV := by
  have e1 : ∀ x y d, vFree u x y d = vFree v x y d := fun x y d => by unfold vFree; rw [h 13 (by decide), h _ (by omega)]
  have e2 : ∀ x y t d, vFits u x y t d = vFits v x y t d := fun x y t d => by unfold vFits; rw [e1, e1, e1]
  have e3 : vD u less = vD v less := by unfold vD; rw [h 2 (by decide), h 16 (by decide), h 3 (by decide)]
  have e4 : ∀ w x y t d, vBlow u (u 17 + 1) w x y t d = vBlow v (v 17 + 1) w x y t d := fun w x y t d => by unfold vBlow; rw [e2, h 16 (by decide), show (u 17 + 1) % 3 = (v 17 + 1) % 3 by omega]
  have e5 : ∀ w x y t d, vMid u (u 17 + 1) w x y t d = vMid v (v 17 + 1) w x y t d := fun w x y t d => by unfold vMid; rw [e4]
  unfold goV
  rw [h 14 (by decide), h 15 (by decide), h 1 (by decide), h (5 + i) (by omega), e2, e3, e5]
  by_cases c : (mk (v (5 + i)) m && vFits v (mX (v 14 % 6) (v 15) m) (mY (v 14 / 6) (v 15) m) (tT (v 15) m) (vLift (v (5 + i)) (vD v less))) = true
  · rw [if_pos c, if_pos c]
    show some (ndV _) = some (ndV _)
    unfold ndV
    rw [vSet_14, vSet_15, vSet_17, vSet_14, vSet_15, vSet_17, show (u 17 + 1) % 3 = (v 17 + 1) % 3 by omega]
  · rw [if_neg c, if_neg c]
theorem eV_go {u v : Nat → Int} (W : Wv u) (hs : ∀ q, q ≠ 14 → q ≠ 15 → q ≠ 17 → u q = v q) {i : Nat} (hi : i < 4) (m less : Int) : eV v i m less (ndV u) = (goV u i m less).map ndV := by
  obtain ⟨-, -, -, -, -, -, w14, w15, -, w17, -⟩ := W
  unfold eV
  refine go_mod (fun q hq => ?_) ?_ hi m less
  · unfold ptV
    by_cases c14 : q = 14
    · rw [c14, vSet_14]
      unfold ndV
      omega
    · by_cases c15 : q = 15
      · rw [c15, vSet_15]
        unfold ndV
        omega
      · rw [vSet_0 _ _ _ _ c14 c15 hq, hs q c14 c15 hq]
  · unfold ptV
    rw [vSet_17]
    unfold ndV
    omega
/-- what a move by its code adds; in how many ways from node x on -/
def gw (v : Nat → Int) (t : Int) (f : Int → Int) (x : Int) (c : Nat) : Int := if c % 10 < 8 then (match eV v (c / 10) ((c % 10 : Nat) : Int) 0 x with
  | some y => if y / 24 = t then f y else 0
  | none => 0) else 0
def wy (v T : Nat → Int) : Nat → Nat → Int → Int
  | 0, _ => fun _ => 1
  | d + 1, k => fun x => sumN (gw v (T k) (wy v T d (k + 1)) x) (10 * (v 4).toNat)
theorem gw_r {v : Nat → Int} {t : Int} {f : Int → Int} {M : Int} (hM : 0 ≤ M) (hf : ∀ y, 0 ≤ f y ∧ f y ≤ M) (x : Int) (c : Nat) : 0 ≤ gw v t f x c ∧ gw v t f x c ≤ M := by
  unfold gw
  by_cases c1 : c % 10 < 8
  · rw [if_pos c1]
    cases eV v (c / 10) ((c % 10 : Nat) : Int) 0 x with
    | none => dsimp only; omega
    | some y =>
      dsimp only
      have := hf y
      split <;> omega
  · rw [if_neg c1]; omega
def big : Nat → Int
  | 0 => 1
  | d + 1 => 40 * big d
theorem wy_r {v T : Nat → Int} (h4 : v 4 ≤ 4) : ∀ (d k : Nat) (x : Int), 0 ≤ big d ∧ 0 ≤ wy v T d k x ∧ wy v T d k x ≤ big d := by
  intro d
  induction d with
  | zero => intro k x; exact ⟨by decide, (show (0 : Int) ≤ 1 by decide), (show (1 : Int) ≤ 1 by decide)⟩
  | succ d ih =>
    intro k x
    have hb := (ih 0 0).1
    have := sumN_r (gw v (T k) (wy v T d (k + 1)) x) (big d) (10 * (v 4).toNat) (fun c _ => gw_r hb (fun y => (ih (k + 1) y).2) x c)
    refine ⟨?_, ?_⟩
    · show 0 ≤ 40 * big d
      omega
    · show 0 ≤ sumN (gw v (T k) (wy v T d (k + 1)) x) (10 * (v 4).toNat) ∧ sumN (gw v (T k) (wy v T d (k + 1)) x) (10 * (v 4).toNat) ≤ 40 * big d
      have h2 : ((10 * (v 4).toNat : Nat) : Int) * big d ≤ 40 * big d := Int.mul_le_mul_of_nonneg_right (by omega) hb
      omega
theorem big_4 : big 0 = 1 ∧ big 1 = 40 ∧ big 2 = 1600 ∧ big 3 = 64000 ∧ big 4 = 2560000 := by decide
theorem wy_b {v T : Nat → Int} (h4 : v 4 ≤ 4) {d : Nat} (hd : d ≤ 4) (k : Nat) (x : Int) : 0 ≤ wy v T d k x ∧ wy v T d k x ≤ 2560000 := by
  have := wy_r (T := T) h4 d k x
  obtain ⟨b0, b1, b2', b3, b4⟩ := big_4
  rcases (show d = 0 ∨ d = 1 ∨ d = 2 ∨ d = 3 ∨ d = 4 by omega) with rfl | rfl | rfl | rfl | rfl <;> omega
section
variable {F : Nat} {P : Nat → Nat → Int} {T : Nat → Int} {r s : Int}
/-- the class's way, of so many cells left -/
def RecOK (P : Nat → Nat → Int) (T : Nat → Int) (r s : Int) (rec : Option Nat → Int32 → Int32 → Int32 → Int32 → Int32 → MH → Option (Int32 × MH)) (d k : Nat) : Prop := ∀ (h : MH) (u : Nat → Int) (mid turn : Int), Es h → CR h P → Bx h 29 u → Wv u → Wz u → u 17 + d ≤ 2000 → (∀ q, q ≠ 14 → q ≠ 15 → q ≠ 17 → u q = P 6 q) → (0 ≤ mid ∧ mid ≤ 23) → (0 ≤ turn ∧ turn ≤ 7) → ∃ u' h', rec (some 3) (zI r) (zI (s + k)) (zI d) (zI mid) (zI turn) h = some (zI (wy (P 6) T d k (24 * mid + 3 * turn + u 17 % 3)), h') ∧ Ch 29 31 h h' ∧ CR h' P ∧ Bx h' 29 u' ∧ Wv u' ∧ Wz u' ∧ u' 17 = u 17 ∧ ∀ q, q ≠ 14 → q ≠ 15 → q ≠ 17 → u' q = P 6 q
theorem c_wb {rec : Option Nat → Int32 → Int32 → Int32 → Int32 → Int32 → MH → Option (Int32 × MH)} {d k : Nat} (R : RecOK P T r s rec d (k + 1)) (hT : ∀ h, CR h P → onc h (some 4) 5 (f_Rw_item (some 4) (zI r) (zI (s + k)) h) = some (zI (T k))) (hTr : -2147483648 ≤ T k ∧ T k < 2147483648) {c : Nat} (hc : c < 10 * (P 6 4).toNat) {h : MH} {u : Nat → Int} {mid turn : Int} (E : Es h) (C : CR h P) (B : Bx h 29 u) (W : Wv u) (Z : Wz u) (h17 : u 17 + (d + 1 : Nat) ≤ 2000) (hs : ∀ q, q ≠ 14 → q ≠ 15 → q ≠ 17 → u q = P 6 q) (hm : 0 ≤ mid ∧ mid ≤ 23) (ht : 0 ≤ turn ∧ turn ≤ 7) : ∃ u' h', f_C_waysBehind F rec (some 3) (zI (c : Int)) (zI r) (zI (s + k)) (zI (d + 1 : Nat)) (zI mid) (zI turn) h = some (zI (gw (P 6) (T k) (wy (P 6) T d (k + 1)) (24 * mid + 3 * turn + u 17 % 3) c), h') ∧ Ch 29 31 h h' ∧ CR h' P ∧ Bx h' 29 u' ∧ Wv u' ∧ Wz u' ∧ u' 17 = u 17 ∧ ∀ q, q ≠ 14 → q ≠ 15 → q ≠ 17 → u' q = P 6 q := by
  have w4 := W.2.2.2.1
  have u4 := hs 4 (by decide) (by decide) (by decide)
  have w17 := W.2.2.2.2.2.2.2.2.2.1
  obtain ⟨u1, hu1⟩ : ∃ u1, u1 = vSet u (u 17) mid turn := ⟨_, rfl⟩
  have W1 : Wv u1 := by rw [hu1]; exact Wv_set W w17.1 w17.2 hm.1 hm.2 ht.1 ht.2
  have k14 : u1 14 = mid := by rw [hu1, vSet_14]
  have k15 : u1 15 = turn := by rw [hu1, vSet_15]
  have k17 : u1 17 = u 17 := by rw [hu1, vSet_17]
  have k0 : ∀ q, q ≠ 14 → q ≠ 15 → q ≠ 17 → u1 q = u q := fun q z1 z2 z3 => by rw [hu1, vSet_0 _ _ _ _ z1 z2 z3]
  have Z1 : Wz u1 := fun q hq => by rw [k0 q (by omega) (by omega) (by omega)]; exact Z q hq
  have s1 : ∀ q, q ≠ 14 → q ≠ 15 → q ≠ 17 → u1 q = P 6 q := fun q z1 z2 z3 => by rw [k0 q z1 z2 z3, hs q z1 z2 z3]
  have heq : upI (upI u 14 mid) 15 turn = u1 := by
    rw [hu1, ← vSet_ord]
    funext q
    unfold upI
    by_cases c17 : q = 17
    · subst c17; simp
    · simp [c17]
  have hnd : ndV u1 = 24 * mid + 3 * turn + u 17 % 3 := by unfold ndV; rw [k14, k15, k17]
  obtain ⟨h1, hh1⟩ : ∃ h1, h1 = mj_up h 29 (bO u1 29) := ⟨_, rfl⟩
  have c1 : Ch 29 31 h h1 := by rw [hh1]; exact Ch_up h _ (by omega) (by omega)
  have B1 : Bx h1 29 u1 := by rw [hh1]; exact bx_up W B (k0 4 (by decide) (by decide) (by decide)) (fun q hq => ⟨k0 _ (by omega) (by omega) (by omega), k0 _ (by omega) (by omega) (by omega)⟩) (fun q => k0 _ (by omega) (by omega) (by omega))
  have C1 : CR h1 P := C.tr c1 B1
  have E1 := c1.es (by omega) E
  have p1 : pfv h (some 29) [1] 3 (.int (zI mid)) = some (mj_up h 29 (bO (upI u 14 mid) 29)) := by
    rw [pfv_o B.1.1 (by rw [bF_len]; decide) rfl, bF_set3]
  have CO1 : CO (mj_up h 29 (bO (upI u 14 mid) 29)) (P 6 0) (P 0 13) := C.1.fr (Ch_up (lo := 29) (hi := 29) h _ (by omega) (by omega)) (by omega)
  have p2 : pfv (mj_up h 29 (bO (upI u 14 mid) 29)) (some 29) [1] 4 (.int (zI turn)) = some h1 := by
    rw [pfv_o (h := mj_up h 29 (bO (upI u 14 mid) 29)) (c := 1) (fs := bF (upI u 14 mid) 30 31) (by rw [up_get, if_pos rfl]) (by rw [bF_len]; decide) rfl, bF_set4, up_up, heq, hh1]
  have g6 : gfi h (some 29) [1] 6 = some (zI (u 17)) := (b_g B.1.1).2.2.2.2.2.2.1
  have q1 : zI (c : Int) / (10 : Int32) = zI ((c / 10 : Nat) : Int) := by rw [l10, zI_div (by omega) (by omega) (by omega) (by omega)]; rfl
  have q2 : mj_irem (zI (c : Int)) (10 : Int32) = zI ((c % 10 : Nat) : Int) := by rw [l10, zI_rem (by omega) (by omega) (by omega) (by omega)]; rfl
  have hw : f_C_within (zI ((c % 10 : Nat) : Int)) (8 : Int32) = 0 ↔ ¬ (0 ≤ ((c % 10 : Nat) : Int) ∧ ((c % 10 : Nat) : Int) < 8) := s_within0 (b := 8) (by omega) (by omega) (by omega) (by omega)
  have hi4 : c / 10 < (P 6 4).toNat := by omega
  rcases c_handG B1.1 W1 (n := ((c / 10 : Nat) : Int)) (by omega) (by omega) with ⟨ci, -⟩ | ⟨ci, p, eh, p2', p3⟩
  · exact absurd ⟨by omega, by rw [s1 4 (by decide) (by decide) (by decide)]; omega⟩ ci
  rw [Int.toNat_natCast] at p3
  have hev := eV_go W1 s1 (i := c / 10) (by omega) ((c % 10 : Nat) : Int) 0
  rw [hnd] at hev
  unfold f_C_waysBehind
  rw [cg5 C.1, bd, g6, bd, bd, p1, bd, cg5 CO1, bd, p2, bd, cg5 C1.1, bd, b_on B1.1.1, q1, q2, eh, bd, if_neg (by intro z; cases z)]
  simp only [hw]
  unfold gw
  by_cases cm : c % 10 < 8
  · have hcan := s_B_canMake E1 W1 B1.1 (i := c / 10) ci.2 p3 (m := ((c % 10 : Nat) : Int)) (by omega) (by omega)
    rw [if_neg (show ¬ ¬ (0 ≤ ((c % 10 : Nat) : Int) ∧ ((c % 10 : Nat) : Int) < 8) from fun z => z ⟨by omega, by omega⟩), bd, b_on B1.1.1, hcan, bd, if_pos cm, hev]
    cases hg : goV u1 (c / 10) ((c % 10 : Nat) : Int) 0 with
    | none =>
      refine ⟨u1, h1, ?_, c1, C1, B1, W1, Z1, k17, s1⟩
      rw [if_pos (by rfl)]
      rfl
    | some u2 =>
      obtain ⟨W2, k217, s2⟩ := goV_W W1 (by omega) hg
      obtain ⟨emk, B2⟩ := Bx_make E1 (by omega) W1 (by omega) B1 (m := ((c % 10 : Nat) : Int)) (by omega) (by omega) hg
      have Z2 : Wz u2 := fun q hq => by rw [s2 q (by omega) (by omega) (by omega)]; exact Z1 q hq
      have s2' : ∀ q, q ≠ 14 → q ≠ 15 → q ≠ 17 → u2 q = P 6 q := fun q z1 z2 z3 => by rw [s2 q z1 z2 z3, s1 q z1 z2 z3]
      obtain ⟨h2, hh2⟩ : ∃ h2, h2 = mj_up h1 29 (bO u2 29) := ⟨_, rfl⟩
      rw [← hh2] at emk B2
      have c2 : Ch 29 31 h1 h2 := by rw [hh2]; exact Ch_up h1 _ (by omega) (by omega)
      have C2 : CR h2 P := C1.tr c2 B2
      have E2 := c2.es (by omega) E1
      obtain ⟨z0, z1, z2, z3, z4, -⟩ := b_g B2.1.1
      have w14 := W2.2.2.2.2.2.2.1
      have w15 := W2.2.2.2.2.2.2.2.1
      have x14 : zI (u2 14) = zI (T k) ↔ u2 14 = T k := zI_eq (by omega) (by omega) hTr.1 hTr.2
      have hdiv : ndV u2 / 24 = u2 14 := by unfold ndV; omega
      -- the last of it: MOVES as they were
      have fin : ∀ (x : Int) (u3 : Nat → Int) (h3 : MH), Ch 29 31 h2 h3 → CR h3 P → Bx h3 29 u3 → Wv u3 → Wz u3 → (∀ q, q ≠ 14 → q ≠ 15 → q ≠ 17 → u3 q = P 6 q) → ∃ u' h', b_C_waysBehind_136 F rec (some 3) (zI (u 17)) (zI x) h3 = some (zI x, h') ∧ Ch 29 31 h h' ∧ CR h' P ∧ Bx h' 29 u' ∧ Wv u' ∧ Wz u' ∧ u' 17 = u 17 ∧ ∀ q, q ≠ 14 → q ≠ 15 → q ≠ 17 → u' q = P 6 q := by
        intro x u3 h3 c3 C3 B3 W3 Z3 s3
        have v14 := W3.2.2.2.2.2.2.1
        have v15 := W3.2.2.2.2.2.2.2.1
        have n0 : ∀ q, q ≠ 17 → upI u3 17 (u 17) q = u3 q := fun q hq => upI_n _ _ hq
        have e4 : upI u3 17 (u 17) = vSet u3 (u 17) (u3 14) (u3 15) := by
          rw [← vSet_ord, upI_id, upI_id]
        have W4 : Wv (upI u3 17 (u 17)) := by rw [e4]; exact Wv_set W3 w17.1 w17.2 v14.1 v14.2 v15.1 v15.2
        have B4 : Bx (mj_up h3 29 (bO (upI u3 17 (u 17)) 29)) 29 (upI u3 17 (u 17)) := bx_up W3 B3 (n0 _ (by decide)) (fun q hq => ⟨n0 _ (by omega), n0 _ (by omega)⟩) (fun q => by
          by_cases cq : 18 + q = 17
          · omega
          · exact n0 _ cq)
        have c4 : Ch 29 31 h3 (mj_up h3 29 (bO (upI u3 17 (u 17)) 29)) := Ch_up h3 _ (by omega) (by omega)
        refine ⟨upI u3 17 (u 17), mj_up h3 29 (bO (upI u3 17 (u 17)) 29), ?_, c1.tr (c2.tr (c3.tr c4)), C3.tr c4 B4, B4, W4, fun q hq => by rw [n0 q (by omega)]; exact Z3 q hq, upI_s _ _ _, fun q z1 z2 z3 => by rw [n0 q z3]; exact s3 q z1 z2 z3⟩
        unfold b_C_waysBehind_136
        rw [cg5 C3.1, bd, pfv_o B3.1.1 (by rw [bF_len]; decide) rfl, bF_set6, bd]
      rw [show (if (some u2).isSome = true then (1 : Int32) else 0) = 1 from rfl, if_neg (by decide), bd, b_on B1.1.1, emk, bd, cg5 C2.1, bd, z3, bd, cg0 C2.1, bd, hT h2 C2, bd]
      simp only [x14, bd, z3, z4]
      show ∃ u' h', _ = some (zI (if ndV u2 / 24 = T k then wy (P 6) T d (k + 1) (ndV u2) else 0), h') ∧ _
      rw [hdiv]
      by_cases c14 : u2 14 = T k
      · obtain ⟨u3, h3, e3, c3, C3, B3, W3, Z3, k3, s3⟩ := R h2 u2 (u2 14) (u2 15) E2 C2 B2 W2 Z2 (by omega) s2' w14 w15
        rw [show 24 * u2 14 + 3 * u2 15 + u2 17 % 3 = ndV u2 from rfl] at e3
        rw [if_pos c14, if_pos c14, co_on C2.1, l1, zI_add, zI_sub, show s + (k : Int) + 1 = s + ((k + 1 : Nat) : Int) by omega, show (((d + 1 : Nat) : Int) - 1) = (d : Int) by omega, e3, bd]
        exact fin _ u3 h3 c3 C3 B3 W3 Z3 s3
      · rw [if_neg c14, if_neg c14]
        exact fin 0 u2 h2 (Ch_0 _ _ h2) C2 B2 W2 Z2 s2'
  · refine ⟨u1, h1, ?_, c1, C1, B1, W1, Z1, k17, s1⟩
    rw [if_pos (show ¬ (0 ≤ ((c % 10 : Nat) : Int) ∧ ((c % 10 : Nat) : Int) < 8) by omega), if_neg cm]
    rfl
theorem c_ws12 {rec : Option Nat → Int32 → Int32 → Int32 → Int32 → Int32 → MH → Option (Int32 × MH)} {d k : Nat} (R : RecOK P T r s rec d (k + 1)) (hT : ∀ h, CR h P → onc h (some 4) 5 (f_Rw_item (some 4) (zI r) (zI (s + k)) h) = some (zI (T k))) (hTr : -2147483648 ≤ T k ∧ T k < 2147483648) {mid turn : Int} (hm : 0 ≤ mid ∧ mid ≤ 23) (ht : 0 ≤ turn ∧ turn ≤ 7) (h4 : 0 ≤ P 6 4 ∧ P 6 4 ≤ 4) {M : Int} : ∀ (e c fu : Nat) (h : MH) (u : Nat → Int), c + e = 10 * (P 6 4).toNat → e < fu → Es h → CR h P → Bx h 29 u → Wv u → Wz u → u 17 = M → M + (d + 1 : Nat) ≤ 2000 → (∀ q, q ≠ 14 → q ≠ 15 → q ≠ 17 → u q = P 6 q) → ∃ u' h', b_C_waysSeen_12 F rec fu (some 3) (zI r) (zI (s + k)) (zI (d + 1 : Nat)) (zI mid) (zI turn) (zI (sumN (gw (P 6) (T k) (wy (P 6) T d (k + 1)) (24 * mid + 3 * turn + M % 3)) c)) (zI (c : Int)) h = some (zI (wy (P 6) T (d + 1) k (24 * mid + 3 * turn + M % 3)), h') ∧ Ch 29 31 h h' ∧ CR h' P ∧ Bx h' 29 u' ∧ Wv u' ∧ Wz u' ∧ u' 17 = M ∧ ∀ q, q ≠ 14 → q ≠ 15 → q ≠ 17 → u' q = P 6 q := by
  intro e
  induction e with
  | zero =>
    intro c fu h u hce hf E C B W Z h17 hM hs
    obtain ⟨fu, rfl⟩ : ∃ q, fu = q + 1 := ⟨fu - 1, by omega⟩
    have g8 : gfi h (some 29) [1] 8 = some (zI (u 4)) := (b_g B.1.1).2.2.2.2.2.2.2.2.1
    have u4 := hs 4 (by decide) (by decide) (by decide)
    refine ⟨u, h, ?_, Ch_0 _ _ h, C, B, W, Z, h17, hs⟩
    unfold b_C_waysSeen_12
    rw [cg5 C.1, bd, g8, bd, u4, l10, zI_mul]
    simp (disch := omega) only [zI_le]
    rw [if_pos (by omega), show c = 10 * (P 6 4).toNat by omega]
    rfl
  | succ e ih =>
    intro c fu h u hce hf E C B W Z h17 hM hs
    obtain ⟨fu, rfl⟩ : ∃ q, fu = q + 1 := ⟨fu - 1, by omega⟩
    have g8 : gfi h (some 29) [1] 8 = some (zI (u 4)) := (b_g B.1.1).2.2.2.2.2.2.2.2.1
    have u4 := hs 4 (by decide) (by decide) (by decide)
    obtain ⟨u1, h1, e1, c1, C1, B1, W1, Z1, k1, s1⟩ := c_wb (F := F) (c := c) R hT hTr (by omega) E C B W Z (by omega) hs hm ht
    rw [h17] at e1 k1
    obtain ⟨u2, h2, e2, c2, C2, B2, W2, Z2, k2, s2⟩ := ih (c + 1) fu h1 u1 (by omega) (by omega) (c1.es (by omega) E) C1 B1 W1 Z1 k1 hM s1
    refine ⟨u2, h2, ?_, c1.tr c2, C2, B2, W2, Z2, k2, s2⟩
    rw [← e2]
    conv => lhs; unfold b_C_waysSeen_12
    rw [cg5 C.1, bd, g8, bd, u4, l10, zI_mul]
    simp (disch := omega) only [zI_le]
    rw [if_neg (by omega), co_on C.1, e1, bd, zI_add, l1, zI_add]
    rfl
theorem c_ws {n : Nat} (hn : n ≤ 4) (hF : 100 ≤ F) (hT : ∀ k, k < n → ∀ h, CR h P → onc h (some 4) 5 (f_Rw_item (some 4) (zI r) (zI (s + k)) h) = some (zI (T k))) (hTr : ∀ k, -2147483648 ≤ T k ∧ T k < 2147483648) (h4 : 0 ≤ P 6 4 ∧ P 6 4 ≤ 4) : ∀ (d k G : Nat), k + d = n → d < G → RecOK P T r s (g_C_waysSeen F G) d k := by
  intro d
  induction d with
  | zero =>
    intro k G hk hG h u mid turn E C B W Z h17 hs hm ht
    obtain ⟨G, rfl⟩ : ∃ q, G = q + 1 := ⟨G - 1, by omega⟩
    refine ⟨u, h, ?_, Ch_0 _ _ h, C, B, W, Z, rfl, hs⟩
    show f_C_waysSeen F (g_C_waysSeen F G) (some 3) (zI r) (zI (s + k)) (zI ((0 : Nat) : Int)) (zI mid) (zI turn) h = _
    unfold f_C_waysSeen
    rw [if_neg (by decide)]
    rfl
  | succ d ih =>
    intro k G hk hG h u mid turn E C B W Z h17 hs hm ht
    obtain ⟨G, rfl⟩ : ∃ q, G = q + 1 := ⟨G - 1, by omega⟩
    have x0 : (0 : Int32) < zI ((d + 1 : Nat) : Int) ↔ 0 < ((d + 1 : Nat) : Int) := zI_lt (a := 0) (by omega) (by omega) (by omega) (by omega)
    obtain ⟨u', h', e', c', C', B', W', Z', k', s'⟩ := c_ws12 (F := F) (d := d) (k := k) (M := u 17) (ih (k + 1) G (by omega) (by omega)) (hT k (by omega)) (hTr k) hm ht h4 (10 * (P 6 4).toNat) 0 F h u (by omega) (by omega) E C B W Z rfl h17 hs
    refine ⟨u', h', ?_, c', C', B', W', Z', k', s'⟩
    show f_C_waysSeen F (g_C_waysSeen F G) (some 3) (zI r) (zI (s + k)) (zI ((d + 1 : Nat) : Int)) (zI mid) (zI turn) h = _
    unfold f_C_waysSeen
    simp only [x0]
    rw [if_pos (by omega)]
    exact e'
/-- the first code that can be -/
def fcd (g : Nat → Int) : Nat → Int
  | 0 => -1000000
  | n + 1 => if fcd g n = -1000000 ∧ 0 < g n then n else fcd g n
theorem fcd_r (g : Nat → Int) : ∀ n, fcd g n = -1000000 ∨ (0 ≤ fcd g n ∧ fcd g n < n) := by
  intro n
  induction n with
  | zero => exact Or.inl rfl
  | succ n ih =>
    unfold fcd
    by_cases c : fcd g n = -1000000 ∧ 0 < g n
    · rw [if_pos c]; omega
    · rw [if_neg c]; omega
theorem fcd_st (g : Nat → Int) (n : Nat) (h : fcd g n ≠ -1000000) : ∀ d, fcd g (n + d) = fcd g n := by
  intro d
  induction d with
  | zero => rfl
  | succ d ih =>
    show (if fcd g (n + d) = -1000000 ∧ 0 < g (n + d) then ((n + d : Nat) : Int) else fcd g (n + d)) = _
    rw [ih, if_neg (fun z => h z.1)]
theorem c_first {n : Nat} (hn : 1 ≤ n ∧ n ≤ 4) (hF : 100 ≤ F) (hT : ∀ k, k < n → ∀ h, CR h P → onc h (some 4) 5 (f_Rw_item (some 4) (zI r) (zI (s + k)) h) = some (zI (T k))) (hTr : ∀ k, -2147483648 ≤ T k ∧ T k < 2147483648) (W6 : Wv (P 6)) (h617 : P 6 17 ≤ 999) : ∀ (e c fu : Nat) (h : MH) (u : Nat → Int), c + e = 10 * (P 6 4).toNat → e < fu → Es h → CR h P → Bx h 29 u → Wv u → Wz u → u 17 = P 6 17 → (∀ q, q ≠ 14 → q ≠ 15 → q ≠ 17 → u q = P 6 q) → fcd (gw (P 6) (T 0) (wy (P 6) T (n - 1) 1) (ndV (P 6))) c = -1000000 → ∃ u' h', b_C_firstSeen_3 F fu (some 3) (zI r) (zI s) (zI (n : Int)) (zI (c : Int)) h = some (zI (fcd (gw (P 6) (T 0) (wy (P 6) T (n - 1) 1) (ndV (P 6))) (10 * (P 6 4).toNat)), h') ∧ Ch 29 31 h h' ∧ CR h' P ∧ Bx h' 29 u' := by
  have h4 := W6.2.2.2.1
  intro e
  induction e with
  | zero =>
    intro c fu h u hce hf E C B W Z h17 hs hfc
    obtain ⟨fu, rfl⟩ : ∃ q, fu = q + 1 := ⟨fu - 1, by omega⟩
    have g8 : gfi h (some 26) [1] 8 = some (zI (P 6 4)) := (b_g C.2.2.2.2.2.1.1.1).2.2.2.2.2.2.2.2.1
    refine ⟨u, h, ?_, Ch_0 _ _ h, C, B⟩
    unfold b_C_firstSeen_3
    rw [cg4 C.1, bd, g8, bd, l10, zI_mul]
    simp (disch := omega) only [zI_le]
    rw [if_pos (by omega), ← show c = 10 * (P 6 4).toNat by omega, hfc]
    rfl
  | succ e ih =>
    intro c fu h u hce hf E C B W Z h17 hs hfc
    obtain ⟨fu, rfl⟩ : ∃ q, fu = q + 1 := ⟨fu - 1, by omega⟩
    obtain ⟨d, rfl⟩ : ∃ d, n = d + 1 := ⟨n - 1, by omega⟩
    rw [show d + 1 - 1 = d by omega] at hfc ih ⊢
    obtain ⟨z0, z1, z2, z3, z4, z5, z6, z7, z8, -⟩ := b_g C.2.2.2.2.2.1.1.1
    have R := c_ws (F := F) (P := P) (T := T) (r := r) (s := s) (n := d + 1) (by omega) hF hT hTr h4 d 1 6 (by omega) (by omega)
    have w14 := W6.2.2.2.2.2.2.1
    have w15 := W6.2.2.2.2.2.2.2.1
    obtain ⟨u1, h1, e1, c1, C1, B1, W1, Z1, k1, s1⟩ := c_wb (F := F) (c := c) (d := d) (k := 0) R (hT 0 (by omega)) (hTr 0) (by omega) E C B W Z (by omega) hs w14 w15
    rw [h17, show 24 * P 6 14 + 3 * P 6 15 + P 6 17 % 3 = ndV (P 6) from rfl, show s + ((0 : Nat) : Int) = s by omega] at e1
    have hgr := gw_r (v := P 6) (t := T 0) (f := wy (P 6) T d (0 + 1)) (M := 2560000) (by omega) (fun y => wy_b (T := T) h4.2 (d := d) (by omega) (0 + 1) y) (ndV (P 6)) c
    have hstep : fcd (gw (P 6) (T 0) (wy (P 6) T d 1) (ndV (P 6))) (c + 1) = if fcd (gw (P 6) (T 0) (wy (P 6) T d 1) (ndV (P 6))) c = -1000000 ∧ 0 < gw (P 6) (T 0) (wy (P 6) T d 1) (ndV (P 6)) c then (c : Int) else fcd (gw (P 6) (T 0) (wy (P 6) T d 1) (ndV (P 6))) c := rfl
    have hun : b_C_firstSeen_3 F (fu + 1) (some 3) (zI r) (zI s) (zI ((d + 1 : Nat) : Int)) (zI (c : Int)) h = if gw (P 6) (T 0) (wy (P 6) T d (0 + 1)) (ndV (P 6)) c ≤ 0 then b_C_firstSeen_3 F fu (some 3) (zI r) (zI s) (zI ((d + 1 : Nat) : Int)) (zI ((c + 1 : Nat) : Int)) h1 else some (zI (c : Int), h1) := by
      conv => lhs; unfold b_C_firstSeen_3
      rw [cg4 C.1, bd, z8, bd, l10, zI_mul]
      simp (disch := omega) only [zI_le]
      rw [if_neg (by omega), bd, z3, bd, bd, z4, bd, co_on C.1, e1, bd]
      have x0 : zI (gw (P 6) (T 0) (wy (P 6) T d (0 + 1)) (ndV (P 6)) c) ≤ (0 : Int32) ↔ gw (P 6) (T 0) (wy (P 6) T d (0 + 1)) (ndV (P 6)) c ≤ 0 := zI_le (b := 0) (by omega) (by omega) (by omega) (by omega)
      simp only [x0]
      rw [l1, zI_add]
      rfl
    rw [hun]
    by_cases cg : gw (P 6) (T 0) (wy (P 6) T d (0 + 1)) (ndV (P 6)) c ≤ 0
    · rw [if_pos cg]
      have hfc' : fcd (gw (P 6) (T 0) (wy (P 6) T d 1) (ndV (P 6))) (c + 1) = -1000000 := by
        rw [hstep, if_neg (fun z => absurd z.2 (Int.not_lt.mpr cg)), hfc]
      obtain ⟨u2, h2, e2, c2, C2, B2⟩ := ih (c + 1) fu h1 u1 (by omega) (by omega) (c1.es (by omega) E) C1 B1 W1 Z1 (k1.trans h17) s1 hfc'
      exact ⟨u2, h2, e2, c1.tr c2, C2, B2⟩
    · rw [if_neg cg]
      refine ⟨u1, h1, ?_, c1, C1, B1⟩
      have hfc' : fcd (gw (P 6) (T 0) (wy (P 6) T d 1) (ndV (P 6))) (c + 1) = c := by
        rw [hstep, if_pos ⟨hfc, Int.not_le.mp cg⟩]
      have := fcd_st (gw (P 6) (T 0) (wy (P 6) T d 1) (ndV (P 6))) (c + 1) (by rw [hfc']; omega) e
      rw [show c + 1 + e = 10 * (P 6 4).toNat by omega, hfc'] at this
      rw [this]
end
