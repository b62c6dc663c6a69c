/-! ===== what is done: move, laden, moor, silt ===== -/
def CY (h : MH) (P : Nat → Nat → Int) : Prop := CO h (P 6 0) (P 0 13) ∧ RO h (P 2) (P 3) (P 4) ∧ TO h (P 1) (P 0 2) (P 0 9) ∧ SO h ∧ Tb h 29 ∧ IM h (P 9) (P 10) ∧ TC h (P 11) (P 0 22)
theorem CY.fr {lo hi : Nat} {h h' : MH} {P : Nat → Nat → Int} (X : CY h P) (c : Ch lo hi h h') (hh : (10 ≤ lo ∧ hi ≤ 16) ∨ (26 ≤ lo ∧ hi ≤ 28)) : CY h' P := by
  obtain ⟨x1, x2, x3, x5, x7, x8, x9⟩ := X
  exact ⟨x1.fr c (by omega), x2.fr c (by omega), x3.fr c (by omega), x5.fr c (by omega), x7.ch c (by omega) (by omega), x8.fr c (by omega) (by omega), x9.fr c (by omega)⟩
theorem CR.x {h : MH} {P : Nat → Nat → Int} (X : CR h P) : CY h P := ⟨X.1, X.2.1, X.2.2.1, X.2.2.2.2.1, X.2.2.2.2.2.2.1, X.2.2.2.2.2.2.2.1, X.2.2.2.2.2.2.2.2⟩
theorem CY.cr {h : MH} {P Q : Nat → Nat → Int} (X : CY h P) (A : AO h (Q 6) (Q 8) (Q 0 18)) (B : Bx h 26 (Q 6)) (hq : Q 6 0 = P 6 0 ∧ (Q 1 = P 1 ∧ Q 2 = P 2 ∧ Q 3 = P 3 ∧ Q 4 = P 4 ∧ Q 9 = P 9 ∧ Q 10 = P 10 ∧ Q 11 = P 11) ∧ Q 0 13 = P 0 13 ∧ Q 0 2 = P 0 2 ∧ Q 0 9 = P 0 9 ∧ Q 0 22 = P 0 22) : CR h Q := by
  obtain ⟨x1, x2, x3, x5, x7, x8, x9⟩ := X
  obtain ⟨q6, ⟨q1, q2, q3, q4, q9, q10, q11⟩, t13, t2, t9, t22⟩ := hq
  unfold CR
  rw [q6, q1, q2, q3, q4, q9, q10, q11, t13, t2, t9, t22]
  exact ⟨x1, x2, x3, A, x5, B, x7, x8, x9⟩
theorem k_keep {h : MH} {v ac : Nat → Int} {n : Int} (X : AO h v ac n) {u : Nat → Int} (B : h.1 26 = bO u 26) (hu : u 13 = v 13 ∧ u 14 = v 14 ∧ u 15 = v 15 ∧ u 16 = v 16 ∧ u 17 = v 17) (W : Wv v) (K : Wk v) (L : Int) : ∃ h1, f_A_keep (some 10) (some 26) (zI L) h = some h1 ∧ Ch 10 16 h h1 ∧ ∀ ac' v2, PushE ac ac' n v → (∀ k : Nat, k ≤ 12 → v k = v2 k) → (∀ c : Nat, c < 24 → v (18 + c) = v2 (18 + c) + lb L c) → AO h1 v2 ac' (min 24 (n + 1)) := by
  obtain ⟨A, nx, a1, a2, a3, a4, a5⟩ := X
  obtain ⟨h1, e, c, X1⟩ := c_keep (A := A) ⟨a1, a2⟩ a3 a4 B L
  have e2 : keepA A nx u L = keepA A nx v L := by
    obtain ⟨u1, u2, u3, u4, u5⟩ := hu
    unfold keepA
    rw [u1, u2, u3, u4, u5]
  rw [e2] at X1
  exact ⟨h1, e, c, fun ac' v2 hP h12 hd => ⟨_, _, X1.1, X1.2, by omega, by omega, AR_push a5 a3 a4 hP W K h12 hd⟩⟩
theorem bx_up {h : MH} {a : Nat} {v v' : Nat → Int} (W : Wv v) (B : Bx h a v) (h4 : v' 4 = v 4) (h5 : ∀ i : Nat, i < 4 → v' (5 + i) = v (5 + i) ∧ v' (9 + i) = v (9 + i)) (h18 : ∀ j : Nat, v' (18 + j) = v (18 + j)) : Bx (mj_up h a (bO v' a)) a v' := by
  obtain ⟨⟨B0, B1, g, B2, B3⟩, t, f, g', t1, t2, t3, t4, t5⟩ := B
  have w4 := W.2.2.2.1
  have hk : Hk h (mj_up h a (bO v' a)) := by
    intro p hp hh
    obtain ⟨s, n, mi, e⟩ := hh
    rw [up_get, if_neg (hC_ne e B0)]
  refine ⟨⟨by rw [up_get, if_pos rfl], ?_, g, by rw [up_get, if_neg (by omega)]; exact B2, fun i hi => ?_⟩, v', f, g', by rw [up_get, if_pos rfl], by rw [up_get, if_neg (by omega)]; exact t2, t3, by rw [up_get, if_neg (by omega)]; exact t4, t5.fr hk⟩
  · rw [up_get, if_neg (by omega), B1]
    congr 3
    funext j
    rw [h18]
  · rw [h4] at hi
    obtain ⟨p, p1, p2, p3⟩ := B3 i hi
    have h5' := h5 i (by omega)
    exact ⟨p, p1, p2, by rw [h5'.1, h5'.2]; exact (hk p p2 ⟨_, _, _, p3⟩).trans p3⟩
theorem goV_mk {v : Nat → Int} {i : Nat} {m less : Int} {v' : Nat → Int} (h : goV v i m less = some v') : mk (v (5 + i)) m = true := by
  unfold goV at h
  split at h
  · rename_i c
    rw [Bool.and_eq_true] at c
    exact c.1
  · cases h
set_option maxHeartbeats 4000000 in
theorem s_move {F : Nat} (hF : 10000 ≤ F) (i j : Int32) : Ok (f_C_move (some 3) i j) (f_M_move F (some 34) i j) := by
  intro h P X
  obtain ⟨k, k1, k2, rfl⟩ := i_ex i
  obtain ⟨m, m1, m2, rfl⟩ := i_ex j
  obtain ⟨E, M, C, D, I⟩ := id X
  obtain ⟨⟨W, Z, K⟩, I2, I3, I4, I5, I6⟩ := id I
  have w4 := W.2.2.2.1
  have w17 := W.2.2.2.2.2.2.2.2.2.1
  have B := C.2.2.2.2.2.1
  have hn := C.2.2.2.1
  have hn18 : 0 ≤ P 0 18 ∧ P 0 18 ≤ 24 := by
    obtain ⟨A, nx, a1, a2, a3, a4, a5⟩ := hn
    exact a4
  have hw : f_C_within (zI m) (8 : Int32) = 0 ↔ ¬ (0 ≤ m ∧ m < 8) := s_within0 (b := 8) m1 m2 (by omega) (by omega)
  have hin : f_M_in (zI m) (0 : Int32) (7 : Int32) = 0 ↔ ¬ (0 ≤ m ∧ m < 8) := by
    rw [show f_M_in (zI m) (0 : Int32) (7 : Int32) = if 0 ≤ m ∧ m ≤ 7 then 1 else 0 from s_M_in (a := 0) (b := 7) m1 m2 (by omega) (by omega) (by omega) (by omega), ite_01]
    omega
  have hi : ∀ g, Mr g (th P) → f_M_isHand (some 34) (zI k) g = some (if 0 ≤ k ∧ k < P 6 4 then 1 else 0) := fun g M => m_isHand (P := th P) M W k1 k2
  by_cases cb : (0 ≤ k ∧ k < P 6 4) ∧ (0 ≤ m ∧ m < 8)
  · obtain ⟨ck, cm⟩ := cb
    have w5 := W.2.2.2.2.1 k.toNat (by omega)
    rcases c_handAt B.1 W k1 k2 with ⟨c1, -⟩ | ⟨-, p, p1, p2, p3⟩
    · exact absurd ck c1
    · have p3' : h.1 p = hC (P 6 (5 + k.toNat)) ((k.toNat : Nat) : Int) (P 6 (9 + k.toNat)) := by rw [Int.toNat_of_nonneg ck.1]; exact p3
      have hcan := s_B_canMake E W B.1 (i := k.toNat) (by omega) p3' cm.1 cm.2
      -- the reference comes to goes
      have pre : ∀ (h1 : MH), Mr h1 P → ∃ g1, Ch 34 47 h1 g1 ∧ Mr g1 (upR (th P) 7 (P 6)) ∧ ∀ (R : Option (Int32 × MH)), (Option.bind (f_M_goes (some 41) (zI k) (zI m) (zI 0) g1) fun x15 => if x15.1 = 0 then some ((-1000002 : Int32), x15.2) else Option.bind (gfr x15.2 (some 34) [11] 15) fun x18 => Option.bind (ald x15.2 x18 0 (17 : Int32)) fun x20 => if x20 = (999 : Int32) then some ((-1000003 : Int32), x15.2) else Option.bind (onc x15.2 (some 34) 11 (f_M_notes F (some 34) x15.2)) fun h23 => Option.bind (gfr h23 (some 34) [11] 16) fun x25 => Option.bind (gfr h23 (some 34) [11] 15) fun x27 => Option.bind (f_M_copies F x25 x27 h23) fun h29 => Option.bind (gfr h29 (some 34) [11] 15) fun x31 => Option.bind (f_M_minutesOf x31 (zI k) (zI m) h29) fun x33 => some (x33, h29)) = R → f_M_move F (some 34) (zI k) (zI m) h1 = R := by
        intro h1 M1
        obtain ⟨g0, e0, b0, N0⟩ := mr_pf M1 0 rfl 0
        obtain ⟨g1, e1, b1, N1⟩ := r_copies (F := F) (by omega) 6 7 (c := 40) (c' := 41) rfl rfl (by omega) (by omega) (by omega) N0 Z I6
        refine ⟨g1, b0.tr b1, N1, fun R hR => ?_⟩
        rw [← hR]
        unfold f_M_move
        simp only [hin]
        rw [show (Value.int (0 : Int32)) = Value.int (zI 0) from rfl, e0, bd, mr_on N0, hi g0 N0, bd, if_pos ck, if_neg (by decide), if_neg (show ¬ ¬ (0 ≤ m ∧ m < 8) from fun z => z cm), mg15 N0, bd, mg16 N0, bd, e1, bd, mg16 N1, bd]
        rfl
      have hgoes : ∀ g1, Mr g1 (upR (th P) 7 (P 6)) → f_M_goes (some 41) (zI k) (zI m) (zI 0) g1 = some (match goV (P 6) k.toNat m 0 with
          | some v' => (1, mj_up g1 41 (aZ 42 v'))
          | none => (0, g1)) := by
        intro g1 N1
        have A : g1.1 41 = aZ 42 (P 6) := N1.2 7 (by omega) (by omega)
        have := s_M_goes A W (by omega) (i := k.toNat) (by omega) cm.1 cm.2 (less := 0) (by omega) (by omega)
        rwa [Int.toNat_of_nonneg ck.1] at this
      cases hg : goV (P 6) k.toNat m 0 with
      | none =>
        obtain ⟨g1, b1, N1, hR⟩ := pre h M
        refine ⟨-1000002, h, g1, _, ?_, hR _ ?_, X.ref b1 N1 ⟨⟨rfl, rfl, rfl, rfl, rfl, rfl, rfl, rfl, rfl⟩, rfl, rfl, rfl, rfl, rfl⟩ I5 Z, Gr_eq b1 (by omega)⟩
        · unfold f_C_move
          simp only [hw]
          rw [cg4 C.1, bd, b_on B.1.1, p1, bd, if_neg (by intro z; cases z), if_neg (show ¬ ¬ (0 ≤ m ∧ m < 8) from fun z => z cm), bd, b_on B.1.1, hcan, bd, hg]
          rfl
        · rw [hgoes g1 N1, hg, bd]
          rfl
      | some v' =>
        obtain ⟨W', h17', hsame⟩ := goV_W W (by have := K.1; omega) hg
        have hs0 : v' 0 = P 6 0 := hsame 0 (by decide) (by decide) (by decide)
        have Z' : Wz v' := fun q hq => by rw [hsame q (by omega) (by omega) (by omega)]; exact Z q hq
        have hmk := goV_mk hg
        have x999 : zI (P 6 17) < (999 : Int32) ↔ P 6 17 < 999 := zI_lt (b := 999) (by omega) (by omega) (by omega) (by omega)
        have y999 : zI (P 6 17) = (999 : Int32) ↔ P 6 17 = 999 := zI_eq (b := 999) (by omega) (by omega) (by omega) (by omega)
        have g6 := (b_g B.1.1).2.2.2.2.2.2.1
        -- behind goes
        have hN2 : ∀ g1, Mr g1 (upR (th P) 7 (P 6)) → Ch 34 47 g1 (mj_up g1 41 (aZ 42 v')) ∧ Mr (mj_up g1 41 (aZ 42 v')) (upR (th P) 7 v') := by
          intro g1 N1
          obtain ⟨q1, q2⟩ := mr_ar N1 7 (c := 41) rfl (by omega) (by omega) v'
          refine ⟨q1, q2.cg (fun j _ => ?_)⟩
          unfold upR
          by_cases e : j = 7
          · rw [if_pos e, if_pos e]
          · rw [if_neg e, if_neg e, if_neg e]
        by_cases c999 : P 6 17 < 999
        · obtain ⟨h1, e1, c1, hAO⟩ := k_keep hn B.1.1 ⟨rfl, rfl, rfl, rfl, rfl⟩ W K 0
          have B1 := B.ch c1 (by omega) (by omega)
          have hmake := s_B_make (c1.es (by omega) E) (a := 26) (by omega) W (by omega) B1.1.1 B1.1.2.1 (i := k.toNat) cm.1 cm.2 hg
          have c2 : Ch 26 28 h1 (mj_up h1 26 (bO v' 26)) := Ch_up h1 _ (by omega) (by omega)
          have B2 : Bx (mj_up h1 26 (bO v' 26)) 26 v' := bx_up W B1 (hsame 4 (by decide) (by decide) (by decide)) (fun q hq => ⟨hsame _ (by omega) (by omega) (by omega), hsame _ (by omega) (by omega) (by omega)⟩) (fun q => hsame _ (by omega) (by omega) (by omega))
          have hall : Ch 3 33 h (mj_up h1 26 (bO v' 26)) := (c1.w (by omega) (by omega)).tr (c2.w (by omega) (by omega))
          obtain ⟨g1, b1, N1, hR⟩ := pre _ (M.fr hall (by omega))
          obtain ⟨q1, N2⟩ := hN2 g1 N1
          obtain ⟨g3, f, e3, b3, N3, hpush⟩ := m_notes (F := F) hF N2 hn18 Z
          obtain ⟨g4, e4, b4, N4⟩ := r_copies (F := F) (by omega) 7 6 (c := 41) (c' := 40) rfl rfl (by omega) (by omega) (by omega) N3 Z' Z
          have hmin := s_H_min (h := mj_up h1 26 (bO v' 26)) (p := p) (s := P 6 (5 + k.toNat)) (n := k) (mi := P 6 (9 + k.toNat)) ((hall.hk (by omega) p p2 ⟨_, _, _, p3⟩).trans p3) w5.1 w5.2.1 w5.2.2.1 w5.2.2.2 cm.1 cm.2
          rw [sM_min k.toNat m hmk] at hmin
          have A40 : g4.1 40 = aZ 42 v' := N4.2 6 (by omega) (by omega)
          have hmin2 := s_M_min A40 W' (i := k.toNat) (by rw [hsame 4 (by decide) (by decide) (by decide)]; omega) cm.1 cm.2
          rw [Int.toNat_of_nonneg ck.1] at hmin2
          have hv : vMin v' k.toNat m = vMin (P 6) k.toNat m := by
            unfold vMin
            rw [hsame _ (by omega) (by omega) (by omega)]
          rw [hv] at hmin2
          have AO1 := hAO f v' hpush (fun q hq => (hsame q (by omega) (by omega) (by omega)).symm) (fun c hc => by rw [hsame _ (by omega) (by omega) (by omega), lb_0 hc]; omega)
          refine ⟨zI (vMin (P 6) k.toNat m), mj_up h1 26 (bO v' 26), g4, _, ?_, hR _ ?_, J.fin (hall.es (by omega) E) (P1 := upR (upR (upR P 6 v') 8 f) 0 (upI (P 0) 18 (min 24 (P 0 18 + 1)))) ?_ (D.fr hall (by omega)) ?_ (b1.tr (q1.tr (b3.tr b4))) N4 ⟨⟨rfl, rfl, rfl, rfl, rfl, rfl, rfl, rfl, rfl⟩, rfl, rfl, rfl, rfl, rfl⟩, Gr_2 hall (b1.tr (q1.tr (b3.tr b4))) (by omega) (by omega)⟩
          · unfold f_C_move
            simp only [hw]
            have C1 : CO h1 (P 6 0) (P 0 13) := C.1.fr c1 (by omega)
            have aon := fun (x : Option MH) => onc_o (x := x) (h := h) (a := 10) hn.choose_spec.choose_spec.1
            rw [cg4 C.1, bd, b_on B.1.1, p1, bd, if_neg (by intro z; cases z), if_neg (show ¬ ¬ (0 ≤ m ∧ m < 8) from fun z => z cm), bd, b_on B.1.1, hcan, bd, hg, show (if (some v').isSome = true then (1 : Int32) else 0) = 1 from rfl, if_neg (by decide), bd, g6, bd]
            simp only [x999]
            rw [if_pos c999, cg2 C.1, bd, bd, aon, show (0 : Int32) = zI 0 from rfl, e1, bd, cg4 C1, bd, b_on B1.1.1, hmake, bd, hmin]
            rfl
          · have A40' : (mj_up g1 41 (aZ 42 v')).1 40 = aZ 42 (P 6) := N2.2 6 (by omega) (by omega)
            rw [hgoes g1 N1, hg, bd]
            show (if (1 : Int32) = 0 then _ else _) = _
            rw [if_neg (by decide), mg15 N2, bd, aldL A40' 17 17 rfl (by decide) (by decide), bd]
            simp only [y999]
            rw [if_neg (by omega), mr_on N2, e3, bd, mg16 N3, bd, mg15 N3, bd, e4, bd, mg15 N4, bd, hmin2]
            rfl
          · exact CY.cr ((C.x.fr c1 (by omega)).fr c2 (by omega)) (AO1.fr c2 (by omega)) B2 ⟨hs0, ⟨rfl, rfl, rfl, rfl, rfl, rfl, rfl⟩, rfl, rfl, rfl, rfl⟩
          · refine ⟨⟨W', Z', ?_, ?_⟩, (show (v' 0 = 0 ∧ ∀ q : Nat, q < 2 → P 10 q = 0) ∨ v' 0 = 1 by rw [hs0]; exact I2), I3, I4, I5, Z'⟩
            · show v' 17 ≤ 999
              omega
            · show onN (v' 13).toNat ≤ 4
              rw [hsame 13 (by decide) (by decide) (by decide)]
              exact K.2
        · obtain ⟨g1, b1, N1, hR⟩ := pre h M
          obtain ⟨q1, N2⟩ := hN2 g1 N1
          refine ⟨-1000003, h, _, _, ?_, hR _ ?_, X.ref (b1.tr q1) N2 ⟨⟨rfl, rfl, rfl, rfl, rfl, rfl, rfl, rfl, rfl⟩, rfl, rfl, rfl, rfl, rfl⟩ I5 Z', Gr_eq (b1.tr q1) (by omega)⟩
          · unfold f_C_move
            simp only [hw]
            rw [cg4 C.1, bd, b_on B.1.1, p1, bd, if_neg (by intro z; cases z), if_neg (show ¬ ¬ (0 ≤ m ∧ m < 8) from fun z => z cm), bd, b_on B.1.1, hcan, bd, hg, show (if (some v').isSome = true then (1 : Int32) else 0) = 1 from rfl, if_neg (by decide), bd, g6, bd]
            simp only [x999]
            rw [if_neg c999]
          · have A40' : (mj_up g1 41 (aZ 42 v')).1 40 = aZ 42 (P 6) := N2.2 6 (by omega) (by omega)
            rw [hgoes g1 N1, hg, bd]
            show (if (1 : Int32) = 0 then _ else _) = _
            rw [if_neg (by decide), mg15 N2, bd, aldL A40' 17 17 rfl (by decide) (by decide), bd]
            simp only [y999]
            rw [if_pos (by have := K.1; omega)]
  · obtain ⟨g, e, c, X'⟩ := X.thr
    refine ⟨-1000001, h, g, th P, ?_, ?_, X', Gr_eq c (by omega)⟩
    · unfold f_C_move
      simp only [hw]
      rw [cg4 C.1, bd, b_on B.1.1]
      rcases c_handAt B.1 W k1 k2 with ⟨c1, c2⟩ | ⟨c1, p, p1, p2, p3⟩
      · rw [c2, bd, if_pos rfl]
      · rw [p1, bd, if_neg (by intro z; cases z), if_pos (fun z => cb ⟨c1, z⟩)]
    · unfold f_M_move
      simp only [hin]
      rw [e, bd, mr_on X'.2.1, hi g X'.2.1, bd]
      by_cases ck : 0 ≤ k ∧ k < P 6 4
      · rw [if_pos ck, if_neg (by decide), if_pos (fun z => cb ⟨ck, z⟩)]
      · rw [if_neg ck, if_pos rfl]
