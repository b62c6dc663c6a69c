/-! ===== silt and undo ===== -/
theorem s_silt {F : Nat} (hF : 10000 ≤ F) : Ok (f_C_silt F (some 3)) (f_M_silt F (some 34)) := by
  intro h P X
  obtain ⟨E, M, C, D, I⟩ := id X
  obtain ⟨⟨W, Z, K⟩, I2, I3, I4, I5, I6⟩ := id I
  have B := C.2.2.2.2.2.1
  have hn := C.2.2.2.1
  have hn18 : 0 ≤ P 0 18 ∧ P 0 18 ≤ 24 := by
    obtain ⟨A, nx, a1, a2, a3, a4, a5⟩ := hn
    exact a4
  have x0 : zI (P 6 0) = (0 : Int32) ↔ P 6 0 = 0 := zI_eq (b := 0) (by omega) (by omega) (by omega) (by omega)
  by_cases c0 : P 6 0 = 0
  · obtain ⟨g, e, c, X'⟩ := X.thr
    have M' := X'.2.1
    have A0 : g.1 40 = aZ 42 (P 6) := M'.2 6 (by omega) (by omega)
    refine ⟨-1000002, h, g, th P, ?_, ?_, X', Gr_eq c (by omega)⟩
    · unfold f_C_silt
      rw [cf8 C.1, bd]
      simp only [x0]
      rw [if_pos c0]
    · unfold f_M_silt
      rw [e, bd, mg15 M', bd, aldL A0 0 0 rfl (by decide) (by decide), bd]
      simp only [x0]
      rw [if_pos c0]
  · have W2 := sl_W W
    have Z2 := sl_Z Z
    obtain ⟨h1, e1, c1, B1⟩ := s_siltUp (F := F) (by omega) (a := 26) (by omega) W Z B
    have c1' : Ch 26 28 h h1 := c1.w (by omega) (by omega)
    have A1 := hn.fr c1 (by omega)
    obtain ⟨h2, e2, c2, hAO⟩ := k_keep A1 B1.1.1 ⟨sl_lo _ (by decide), sl_lo _ (by decide), sl_lo _ (by decide), sl_lo _ (by decide), sl_lo _ (by decide)⟩ W K ((lowN (P 6) 24 : Nat) : Int)
    have B2 := B1.ch c2 (by omega) (by omega)
    have hall : Ch 3 33 h h2 := (c1'.w (by omega) (by omega)).tr (c2.w (by omega) (by omega))
    obtain ⟨g0, e0, b0, N0⟩ := mr_pf (M.fr hall (by omega)) 0 rfl 0
    obtain ⟨g1, f, e3, b3, N1, hpush⟩ := m_notes (F := F) hF N0 hn18 Z
    obtain ⟨g2, e4, b4, N2⟩ := m_silts (F := F) (by omega) N1 (c := 40) 6 rfl (Or.inl rfl) W
    have hs0 : sl (P 6) 0 = P 6 0 := sl_lo _ (by decide)
    have AO1 := hAO f (sl (P 6)) hpush (fun q hq => (sl_lo _ (by omega)).symm) (fun c hc => by
      have hl := lowN_lt (P 6) 24
      rw [lb_N (by omega) hc, btN_low]
      unfold sl
      by_cases z : 0 < P 6 (18 + c)
      · rw [if_pos (show 18 ≤ 18 + c ∧ 18 + c < 42 ∧ 0 < P 6 (18 + c) from ⟨by omega, by omega, z⟩), if_pos (show c < 24 ∧ 0 < P 6 (18 + c) from ⟨hc, z⟩)]; omega
      · rw [if_neg (show ¬ (18 ≤ 18 + c ∧ 18 + c < 42 ∧ 0 < P 6 (18 + c)) from fun y => z y.2.2), if_neg (show ¬ (c < 24 ∧ 0 < P 6 (18 + c)) from fun y => z y.2)]; omega)
    have C1 : CO h1 (P 6 0) (P 0 13) := C.1.fr c1 (by omega)
    have C2 : CO h2 (P 6 0) (P 0 13) := C1.fr c2 (by omega)
    have N2' : Mr g2 (upR (upR (upR (th P) 8 f) 0 (upI (th P 0) 18 (min 24 (P 0 18 + 1)))) 6 (sl (P 6))) := N2
    have hf1 := s_fitsNow (hall.es (by omega) E) W2 B2.1.1 B2.1.2.1
    have hf2 : f_M_fitsNow (some 34) g2 = some (b2 (vFits (sl (P 6)) (sl (P 6) 14 % 6) (sl (P 6) 14 / 6) (sl (P 6) 15) (vD (sl (P 6)) 0))) := m_fitsNow N2' W2
    generalize vFits (sl (P 6)) (sl (P 6) 14 % 6) (sl (P 6) 14 / 6) (sl (P 6) 15) (vD (sl (P 6)) 0) = b at hf1 hf2
    refine ⟨b2 b, h2, g2, _, ?_, ?_, J.fin (hall.es (by omega) E) (P1 := upR (upR (upR P 6 (sl (P 6))) 8 f) 0 (upI (P 0) 18 (min 24 (P 0 18 + 1)))) ?_ (D.fr hall (by omega)) ?_ (b0.tr (b3.tr b4)) N2' ⟨⟨rfl, rfl, rfl, rfl, rfl, rfl, rfl, rfl, rfl⟩, rfl, rfl, rfl, rfl, rfl⟩, Gr_2 hall (b0.tr (b3.tr b4)) (by omega) (by omega)⟩
    · have aon := fun (x : Option MH) => onc_o (x := x) (h := h1) (a := 10) A1.choose_spec.choose_spec.1
      unfold f_C_silt
      rw [cf8 C.1, bd]
      simp only [x0]
      rw [if_neg c0, cg2 C.1, bd, cg4 C.1, bd, bd, b_on B.1.1, e1, bd, aon, e2, bd, cg4 C2, bd, b_on B2.1.1, hf1, bd]
      cases b <;> rfl
    · have A0 : g0.1 40 = aZ 42 (P 6) := N0.2 6 (by omega) (by omega)
      unfold f_M_silt
      rw [show (Value.int (0 : Int32)) = Value.int (zI 0) from rfl, e0, bd, mg15 N0, bd, aldL A0 0 0 rfl (by decide) (by decide), bd]
      simp only [x0]
      rw [if_neg c0, mr_on N0, e3, bd, mg15 N1, bd, e4, bd, mr_on N2, hf2, bd]
      cases b <;> rfl
    · exact CY.cr ((C.x.fr c1' (by omega)).fr c2 (by omega)) AO1 B2 ⟨hs0, ⟨rfl, rfl, rfl, rfl, rfl, rfl, rfl⟩, rfl, rfl, rfl, rfl⟩
    · exact ⟨⟨W2, Z2, (show sl (P 6) 17 ≤ 999 ∧ onN (sl (P 6) 13).toNat ≤ 4 by rw [sl_lo _ (by decide), sl_lo _ (by decide)]; exact K)⟩, (show (sl (P 6) 0 = 0 ∧ ∀ q : Nat, q < 2 → P 10 q = 0) ∨ sl (P 6) 0 = 1 by rw [hs0]; exact I2), I3, I4, I5, I6⟩
theorem bit_lb (L : Int) (c : Nat) : f_C_bit (zI L) (zI (c : Int)) = zI (lb L c) := by
  unfold lb
  rw [zI_of]
  rfl
theorem s_back107 {F : Nat} {A : Nat → Nat → Int} {nx n : Int} (h1 : 0 ≤ nx ∧ nx < 24) {u e : Nat → Int} {L : Int} (hL : A 5 nx.toNat = L) : ∀ (d k fu : Nat) (h : MH) (f : Nat → Int), k + d = 24 → d < fu → AP h A nx n → h.1 26 = bO u 26 → h.1 27 = aZ 24 f → (∀ j, j < 24 → f j + (if j < k then 0 else lb L j) = e (18 + j)) → (∀ j, 24 ≤ j → f j = e (18 + j)) →
    b_A_takeBack_107 F fu (some 10) (some 26) (zI (k : Int)) h = some (mj_up h 27 (aZ 24 (fun j => e (18 + j)))) := by
  intro d
  induction d with
  | zero =>
    intro k fu h f hk hf X B0 B1 hj hz
    obtain ⟨fu, rfl⟩ : ∃ q, fu = q + 1 := ⟨fu - 1, by omega⟩
    unfold b_A_takeBack_107
    simp (disch := omega) only [l24, zI_le]
    rw [if_pos (by omega)]
    have ef : (fun j => e (18 + j)) = f := by
      funext j
      by_cases c : j < 24
      · have := hj j c
        rw [if_pos (by omega)] at this
        omega
      · rw [hz j (by omega)]
    rw [ef, ← B1, up_id]
  | succ d ih =>
    intro k fu h f hk hf X B0 B1 hj hz
    obtain ⟨fu, rfl⟩ : ∃ q, fu = q + 1 := ⟨fu - 1, by omega⟩
    have hat := s_at_in B1 (i := (k : Int)) (by omega) (by omega) (by omega)
    have hat5 : f_C_at (some 16) (zI nx) h = some (zI (A 5 nx.toNat)) := s_at_in (X.2 5 (by omega)) h1.1 (by omega) (by omega)
    have ep := s_put B1 (by omega) (i := (k : Int)) (x := f k + lb L k) (by omega) (by omega) (by omega)
    rw [Int.toNat_natCast] at hat ep
    have g9 : gfr h (some 26) [1] 9 = some (some 27) := (b_g B0).2.2.2.2.2.2.2.2.2.1
    have c1 : Ch 27 27 h (mj_up h 27 (aZ 24 (upI f k (f k + lb L k)))) := Ch_up h _ (by omega) (by omega)
    have := ih (k + 1) fu (mj_up h 27 (aZ 24 (upI f k (f k + lb L k)))) (upI f k (f k + lb L k)) (by omega) (by omega) ⟨(c1.2 10 (by omega)).trans X.1, fun a ha => (c1.2 _ (by omega)).trans (X.2 a ha)⟩ ((c1.2 26 (by omega)).trans B0) (by rw [up_get, if_pos rfl]) (fun j hj2 => by
      have := hj j hj2
      by_cases e : j = k
      · rw [e, upI_s, if_pos (by omega)]
        rw [e, if_neg (by omega)] at this
        omega
      · rw [upI_n _ _ e]
        by_cases e2 : j < k
        · rw [if_pos (by omega)]
          rw [if_pos e2] at this
          exact this
        · rw [if_neg (by omega)]
          rw [if_neg e2] at this
          exact this) (fun j hj2 => by rw [upI_n _ _ (by omega)]; exact hz j hj2)
    unfold b_A_takeBack_107
    simp (disch := omega) only [l24, zI_le]
    rw [if_neg (by omega), g9, bd, bd, hat, bd, (ap_g X).2.2.2.2.2.1, bd, (ap_g X).2.2.2.2.2.2.1, bd, hat5, bd, hL, bit_lb, zI_add, ep, bd, l1, zI_add]
    rw [up_up] at this
    exact this
theorem s_takeBack {F : Nat} (hF : 100 ≤ F) {h : MH} {v ac : Nat → Int} {n : Int} (X : AO h v ac n) (B : Bx h 26 v) (W : Wv v) (Z : Wz v) (hn : 1 ≤ n) : ∃ h', f_A_takeBack F (some 10) (some 26) h = some h' ∧ (∃ h1, Ch 10 16 h h1 ∧ Ch 26 28 h1 h') ∧ AO h' (aE ac (n - 1).toNat) ac (n - 1) ∧ Bx h' 26 (aE ac (n - 1).toNat) ∧ Wv (aE ac (n - 1).toNat) ∧ Wk (aE ac (n - 1).toNat) ∧ ∀ k : Nat, k ≤ 12 → aE ac (n - 1).toNat k = v k := by
  obtain ⟨A, nx, a1, a2, a3, a4, a5⟩ := X
  obtain ⟨e, he⟩ : ∃ e, e = aE ac (n - 1).toNat := ⟨_, rfl⟩
  obtain ⟨s, hs⟩ : ∃ s, s = (nx + 23) % 24 := ⟨_, rfl⟩
  have hlast := a5 (n - 1).toNat (by omega)
  rw [← he, show (nx + 24 - n + ((n - 1).toNat : Int)) % 24 = s by omega] at hlast
  obtain ⟨⟨r1, r2⟩, r3, ⟨r4, r5, r6, r7, r8⟩, r9⟩ := hlast
  have X0 : AP h A nx n := ⟨a1, a2⟩
  obtain ⟨⟨h1, e1, c1, X1⟩, -⟩ := ap_pf X0 s 0
  obtain ⟨-, ⟨h2, e2, c2, X2⟩⟩ := ap_pf X1 0 (n - 1)
  have c12 : Ch 10 16 h h2 := c1.tr c2
  have B2 := B.ch c12 (by omega) (by omega)
  have hat : ∀ (a c : Nat), c = 11 + a → a < 6 → ∀ h', Ch 26 28 h2 h' → f_C_at (some c) (zI s) h' = some (zI (A a s.toNat)) := by
    intro a c hc ha h' ch
    subst hc
    exact s_at_in ((ch.2 _ (by omega)).trans (X2.2 a ha)) (by omega) (by omega) (by omega)
  have ag : ∀ h', Ch 26 28 h2 h' → AP h' A s (n - 1) := fun h' ch => ⟨(ch.2 10 (by omega)).trans X2.1, fun a ha => (ch.2 _ (by omega)).trans (X2.2 a ha)⟩
  -- the five numbers
  have cu : ∀ c, Ch 26 28 h2 (mj_up h2 26 c) := fun c => Ch_up h2 _ (by omega) (by omega)
  have hset : oB 1 (((((bF v 27 28).set 3 (.int (zI (e 14)))).set 4 (.int (zI (e 15)))).set 5 (.int (zI (e 16)))).set 6 (.int (zI (e 17))) |>.set 7 (.int (zI (e 13)))) = bO e 26 := by
    unfold bO bF
    rw [r3 1 (by decide), r3 2 (by decide), r3 3 (by decide), r3 4 (by decide)]
    rfl
  have B27 : h2.1 27 = aZ 24 (fun j => v (18 + j)) := B2.1.2.1
  have hloop := s_back107 (F := F) (A := A) (nx := s) (n := n - 1) (by omega) (u := e) (e := e) (L := A 5 s.toNat) rfl 24 0 F (mj_up h2 26 (bO e 26)) (fun j => v (18 + j)) rfl (by omega) (ag _ (cu _)) (by rw [up_get, if_pos rfl]) (by rw [up_get, if_neg (by decide)]; exact B27) (fun j hj => by
    rw [if_neg (by omega)]
    have := r9 j hj
    rw [if_pos (by omega)] at this
    exact this.symm) (fun j hj => by
    rw [Z _ (by omega), he]
    unfold aE
    rw [if_neg (by omega)])
  have Be : Bx (mj_up h2 26 (bO e 26)) 26 (fun k => if k < 18 then e k else v k) := by
    have := bx_up (v' := fun k => if k < 18 then e k else v k) W B2 (by show (if 4 < 18 then e 4 else v 4) = v 4; rw [if_pos (by decide)]; exact r3 4 (by decide)) (fun i hi => by
      show (if 5 + i < 18 then e (5 + i) else v (5 + i)) = v (5 + i) ∧ (if 9 + i < 18 then e (9 + i) else v (9 + i)) = v (9 + i)
      rw [if_pos (by omega), if_pos (by omega)]
      exact ⟨r3 _ (by omega), r3 _ (by omega)⟩) (fun j => by show (if 18 + j < 18 then e (18 + j) else v (18 + j)) = _; rw [if_neg (by omega)])
    rw [bO_cg (v := e) (fun k hk => by show (if k < 18 then e k else v k) = e k; rw [if_pos hk])] at this
    exact this
  have Ze : Wz e := by
    intro k hk
    rw [he]
    unfold aE
    rw [if_neg (by omega)]
  have We2 : Wv (fun k => if k < 18 then e k else v k) := by
    obtain ⟨w1, w2, w3, w4, w5, w13, w14, w15, w16, w17, w18⟩ := r1
    have w4' := W.2.2.2.1
    refine ⟨w1, w2, w3, w4, fun i hi => ?_, w13, w14, w15, w16, w17, fun q hq => ?_⟩
    · have hi : (i : Int) < e 4 := hi
      have := r3 4 (by decide)
      show 1 ≤ (if 5 + i < 18 then e (5 + i) else v (5 + i)) ∧ (if 5 + i < 18 then e (5 + i) else v (5 + i)) ≤ 5 ∧ 1 ≤ (if 9 + i < 18 then e (9 + i) else v (9 + i)) ∧ (if 9 + i < 18 then e (9 + i) else v (9 + i)) ≤ 20
      rw [if_pos (by omega), if_pos (by omega)]
      exact w5 i hi
    · show 0 ≤ (if 18 + q < 18 then e (18 + q) else v (18 + q)) ∧ (if 18 + q < 18 then e (18 + q) else v (18 + q)) ≤ 9
      rw [if_neg (by omega)]
      exact W.2.2.2.2.2.2.2.2.2.2 q hq
  have Bfin := Bx_dep We2 Be (v' := e) (fun k hk => by show e k = if k < 18 then e k else v k; rw [if_pos hk]) Ze
  have cfin : Ch 26 28 h2 (mj_up (mj_up h2 26 (bO e 26)) 27 (aZ 24 (fun j => e (18 + j)))) := (cu _).tr (Ch_up _ _ (by omega) (by omega))
  rw [← he]
  refine ⟨_, ?_, ⟨h2, c12, cfin⟩, ⟨A, s, (ag _ cfin).1, (ag _ cfin).2, by omega, by omega, ?_⟩, Bfin, r1, r2, r3⟩
  · rw [← hloop]
    unfold f_A_takeBack
    rw [(ap_g X0).2.2.2.2.2.2.1, bd, l24, l1, zI_add, zI_sub, show (nx + 24 - 1) = nx + 23 by omega, zI_rem (by omega) (by omega) (by omega) (by omega), ← hs, e1, bd, (ap_g X1).2.2.2.2.2.2.2, bd, zI_sub, l0, zI_max (by omega) (by omega) (by omega) (by omega), show max 0 (n - 1) = n - 1 by omega, e2, bd]
    rw [(ap_g X2).1, bd, (ap_g X2).2.2.2.2.2.2.1, bd, hat 0 11 rfl (by omega) h2 (Ch_0 _ _ _), bd, r4, pfv_o B2.1.1 (by simp [bF]) rfl, bd]
    rw [(ap_g (ag _ (cu _))).2.1, bd, (ap_g (ag _ (cu _))).2.2.2.2.2.2.1, bd, hat 1 12 rfl (by omega) _ (cu _), bd, r5, pf_up (by simp [bF]), bd]
    rw [(ap_g (ag _ (cu _))).2.2.1, bd, (ap_g (ag _ (cu _))).2.2.2.2.2.2.1, bd, hat 2 13 rfl (by omega) _ (cu _), bd, r6, pf_up (by simp [bF]), bd]
    rw [(ap_g (ag _ (cu _))).2.2.2.1, bd, (ap_g (ag _ (cu _))).2.2.2.2.2.2.1, bd, hat 3 14 rfl (by omega) _ (cu _), bd, r7, pf_up (by simp [bF]), bd]
    rw [(ap_g (ag _ (cu _))).2.2.2.2.1, bd, (ap_g (ag _ (cu _))).2.2.2.2.2.2.1, bd, hat 4 15 rfl (by omega) _ (cu _), bd, r8, pf_up (by simp [bF]), bd, hset]
    rfl
  · intro j hj
    obtain ⟨q1, q2, q3, q4⟩ := a5 j (by omega)
    have es : (s + 24 - (n - 1) + j) % 24 = (nx + 24 - n + j) % 24 := by omega
    rw [es]
    refine ⟨q1, fun k hk => (q2 k hk).trans (r3 k hk).symm, q3, fun c hc => ?_⟩
    have := q4 c hc
    rw [if_neg (by omega)] at this
    by_cases z : (j : Int) + 1 = n - 1
    · rw [if_pos z, he, show (n - 1).toNat = j + 1 by omega]
      exact this
    · rw [if_neg z]
      exact this
theorem m_undo27 {F : Nat} {n : Nat} (hn : n < 24) : ∀ (d k fu : Nat) (g : MH) (Q : Nat → Nat → Int), k + d = 42 → d < fu → Mr g Q → Q 0 18 = n → ∃ g' f, b_M_undo_27 F fu (some 34) (zI (k : Int)) g = some (zI (n : Int), g') ∧ Ch 34 47 g g' ∧ Mr g' (upR Q 6 f) ∧ ∀ j, f j = if k ≤ j ∧ j < 42 then Q 8 (42 * n + j) else Q 6 j := by
  intro d
  induction d with
  | zero =>
    intro k fu g Q hk hf M hQ
    obtain ⟨fu, rfl⟩ : ∃ q, fu = q + 1 := ⟨fu - 1, by omega⟩
    refine ⟨g, Q 6, ?_, Ch_0 _ _ g, M.cg (fun j _ => ?_), fun j => by rw [if_neg (by omega)]⟩
    · unfold b_M_undo_27
      simp (disch := omega) only [l42, zI_le]
      rw [if_pos (by omega), mf18 M, bd, hQ]
    · unfold upR
      by_cases c : j = 6
      · rw [if_pos c, c]
      · rw [if_neg c]
  | succ d ih =>
    intro k fu g Q hk hf M hQ
    obtain ⟨fu, rfl⟩ : ∃ q, fu = q + 1 := ⟨fu - 1, by omega⟩
    have A8 : g.1 42 = aZ 1008 (Q 8) := M.2 8 (by omega) (by omega)
    obtain ⟨g1, e1, c1, M1⟩ := mr_st M 6 (c := 40) (k := (k : Int)) rfl (by omega) (by omega) (Q 8 (42 * n + k)) (by omega) (show (k : Int) < (42 : Nat) by omega)
    have e1' : ast g (some 40) 0 (zI (k : Int)) (zI (Q 8 (42 * n + k))) = some g1 := e1
    obtain ⟨g2, f, e2, c2, M2, hf2⟩ := ih (k + 1) fu g1 _ (by omega) (by omega) M1 hQ
    refine ⟨g2, f, ?_, c1.tr c2, M2.cg (fun j _ => ?_), fun j => ?_⟩
    · unfold b_M_undo_27
      simp (disch := omega) only [l42, zI_le]
      rw [if_neg (by omega), mg15 M, bd, mg17 M, bd, mf18 M, bd, hQ, zI_mul, zI_add, show 42 * (n : Int) + k = ((42 * n + k : Nat) : Int) by omega, aldN A8 (k := 42 * n + k) (by omega) (by omega), bd, e1', bd, l1, zI_add]
      exact e2
    · unfold upR
      by_cases c : j = 6
      · rw [if_pos c, if_pos c]
      · rw [if_neg c, if_neg c, if_neg c]
    · rw [hf2 j]
      show (if k + 1 ≤ j ∧ j < 42 then Q 8 (42 * n + j) else upI (Q 6) ((k : Int)).toNat (Q 8 (42 * n + k)) j) = _
      rw [Int.toNat_natCast]
      by_cases c : j = k
      · rw [if_neg (by omega), if_pos (by omega), c, upI_s]
      · rw [upI_n _ _ c]
        by_cases c2 : k + 1 ≤ j ∧ j < 42
        · rw [if_pos c2, if_pos (by omega)]
        · rw [if_neg c2, if_neg (by omega)]
theorem s_undo {F : Nat} (hF : 10000 ≤ F) : Ok (f_C_undo F (some 3)) (f_M_undo F (some 34)) := by
  intro h P X
  obtain ⟨E, M, C, D, I⟩ := id X
  obtain ⟨⟨W, Z, K⟩, I2, I3, I4, I5, I6⟩ := id I
  have B := C.2.2.2.2.2.1
  have hn := C.2.2.2.1
  have hn18 : 0 ≤ P 0 18 ∧ P 0 18 ≤ 24 := by
    obtain ⟨A, nx, a1, a2, a3, a4, a5⟩ := hn
    exact a4
  have x0 : zI (P 0 18) = (0 : Int32) ↔ P 0 18 = 0 := zI_eq (b := 0) (by omega) (by omega) (by omega) (by omega)
  have kept : ∀ h' v' n', AO h' v' (P 8) n' → (∀ x : Option Int32, onc h' (some 10) 0 x = x) ∧ f_A_kept (some 10) h' = some (zI n') := by
    intro h' v' n' X'
    obtain ⟨A, nx, a1, -⟩ := X'
    refine ⟨fun x => onc_o a1, ?_⟩
    unfold f_A_kept
    rw [gfi_o a1 (k := 7) (x := zI n') rfl rfl]
    rfl
  obtain ⟨k1, k2⟩ := kept h _ _ hn
  by_cases c0 : P 0 18 = 0
  · obtain ⟨g, e, c, X'⟩ := X.thr
    have m18 : gfi g (some 34) [11] 18 = some (zI (P 0 18)) := by have := mf18 X'.2.1; exact this
    refine ⟨-1000002, h, g, th P, ?_, ?_, X', Gr_eq c (by omega)⟩
    · unfold f_C_undo
      rw [cg2 C.1, bd, k1, k2, bd]
      simp only [x0]
      rw [if_pos c0]
    · unfold f_M_undo
      rw [e, bd, m18, bd]
      simp only [x0]
      rw [if_pos c0]
  · obtain ⟨h2, e1, ⟨h1, c1, c2⟩, A2, B2, W2, K2, h12⟩ := s_takeBack (F := F) (by omega) hn B W Z (by omega)
    have hall : Ch 3 33 h h2 := (c1.w (by omega) (by omega)).tr (c2.w (by omega) (by omega))
    obtain ⟨q1, q2⟩ := kept h2 _ _ A2
    obtain ⟨g0, e0, b0, N0⟩ := mr_pf (M.fr hall (by omega)) 0 rfl 0
    obtain ⟨g1, e3, b3, N1⟩ := mr_pf N0 18 rfl (P 0 18 - 1)
    obtain ⟨g2, f, e4, b4, N2, hf⟩ := m_undo27 (F := F) (n := (P 0 18 - 1).toNat) (by omega) 42 0 F g1 _ rfl (by omega) N1 (by show P 0 18 - 1 = _; omega)
    rw [Int.toNat_of_nonneg (by omega)] at e4
    have ef : f = aE (P 8) (P 0 18 - 1).toNat := by
      funext j
      rw [hf j]
      unfold aE
      by_cases c : j < 42
      · rw [if_pos (by omega), if_pos c]
        rfl
      · rw [if_neg (by omega), if_neg c]
        exact Z j (by omega)
    have m18 : gfi g0 (some 34) [11] 18 = some (zI (P 0 18)) := by have := mf18 N0; exact this
    have C2 : CO h2 (P 6 0) (P 0 13) := (C.1.fr c1 (by omega)).fr c2 (by omega)
    refine ⟨zI (P 0 18 - 1), h2, g2, _, ?_, ?_, J.fin (hall.es (by omega) E) (P1 := upR (upR P 6 f) 0 (upI (P 0) 18 (P 0 18 - 1))) ?_ (D.fr hall (by omega)) ?_ (b0.tr (b3.tr b4)) N2 ⟨⟨rfl, rfl, rfl, rfl, rfl, rfl, rfl, rfl, rfl⟩, rfl, rfl, rfl, rfl, rfl⟩, Gr_2 hall (b0.tr (b3.tr b4)) (by omega) (by omega)⟩
    · have aon : ∀ x : Option MH, onc h (some 10) 0 x = x := by
        obtain ⟨A, nx, a1, -⟩ := hn
        exact fun x => onc_o a1
      unfold f_C_undo
      rw [cg2 C.1, bd, k1, k2, bd]
      simp only [x0]
      rw [if_neg c0, bd, cg4 C.1, bd, aon, e1, bd, cg2 C2, bd, q1, q2]
      rfl
    · unfold f_M_undo
      rw [show (Value.int (0 : Int32)) = Value.int (zI 0) from rfl, e0, bd, m18, bd]
      simp only [x0]
      rw [if_neg c0, bd, l1, zI_sub, e3, bd, l0]
      exact e4
    · rw [← ef] at A2 B2
      exact CY.cr ((C.x.fr c1 (by omega)).fr c2 (by omega)) A2 B2 ⟨by show f 0 = P 6 0; rw [ef]; exact h12 0 (by decide), ⟨rfl, rfl, rfl, rfl, rfl, rfl, rfl⟩, rfl, rfl, rfl, rfl⟩
    · rw [← ef] at W2 K2 h12
      refine ⟨⟨W2, ?_, K2⟩, (show (f 0 = 0 ∧ ∀ q : Nat, q < 2 → P 10 q = 0) ∨ f 0 = 1 by rw [h12 0 (by decide)]; exact I2), I3, I4, I5, I6⟩
      show Wz f
      intro k hk
      rw [ef]
      unfold aE
      rw [if_neg (by omega)]
