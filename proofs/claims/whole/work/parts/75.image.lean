/-! ===== images ===== -/
theorem new_basin (h : MH) : ∃ h1 h2, newO h 1 = some h1 ∧ f_B_init (some h.2.1) h1 = some h2 ∧ h2.1 h.2.1 = bO (fun _ => 0) h.2.1 ∧ h2.1 (h.2.1 + 1) = aZ 24 (fun _ => 0) ∧ h2.1 (h.2.1 + 2) = rQ (fun _ => none) ∧ (∀ j, (j < h.2.1 ∨ h.2.1 + 2 < j) → h2.1 j = h.1 j) ∧ h2.2.1 = h.2.1 + 3 ∧ h2.2.2 = h.2.2 + 39 := by
  obtain ⟨p, hp⟩ : ∃ p, p = h.2.1 := ⟨_, rfl⟩
  obtain ⟨h1, e1⟩ : ∃ h1, h1 = newo h 1 (o_of 1) := ⟨_, rfl⟩
  have a1 : ∀ j, h1.1 j = if j = p then oB 1 o_1 else h.1 j := fun j => by rw [e1, hp]; rfl
  have n1 : h1.2.1 = p + 1 ∧ h1.2.2 = h.2.2 + 11 := by rw [e1, hp]; exact ⟨rfl, rfl⟩
  obtain ⟨h2, e2⟩ : ∃ h2, h2 = newa h1 0 24 := ⟨_, rfl⟩
  have a2 : ∀ j, h2.1 j = if j = p + 1 then aZ 24 (fun _ => 0) else h1.1 j := fun j => by rw [e2, ← n1.1]; rfl
  have n2 : h2.2.1 = p + 2 ∧ h2.2.2 = h.2.2 + 35 := by rw [e2]; exact ⟨by show h1.2.1 + 1 = _; omega, by show h1.2.2 + 24 = _; omega⟩
  have p2 : h2.1 p = oB 1 o_1 := by rw [a2, if_neg (by omega), a1, if_pos rfl]
  have e3 : pfv h2 (some p) [1] 9 (va_rf (some h1.2.1)) = some (mj_up h2 p (oB 1 (o_1.set 9 (.ref (p + 1))))) := by
    rw [pfv_o p2 (by decide) rfl, n1.1]
    rfl
  obtain ⟨h3, e3'⟩ : ∃ h3, h3 = mj_up h2 p (oB 1 (o_1.set 9 (.ref (p + 1)))) := ⟨_, rfl⟩
  obtain ⟨h4, e4⟩ : ∃ h4, h4 = newq h3 2 4 := ⟨_, rfl⟩
  have n3 : h3.2.1 = p + 2 ∧ h3.2.2 = h.2.2 + 35 := by rw [e3']; exact n2
  have a4 : ∀ j, h4.1 j = if j = p + 2 then rQ (fun _ => none) else h3.1 j := fun j => by rw [e4, ← n3.1]; rfl
  have n4 : h4.2.1 = p + 3 ∧ h4.2.2 = h.2.2 + 39 := by rw [e4]; exact ⟨by show h3.2.1 + 1 = _; omega, by show h3.2.2 + 4 = _; omega⟩
  have p4 : h4.1 p = oB 1 (o_1.set 9 (.ref (p + 1))) := by rw [a4, if_neg (by omega), e3', up_get, if_pos rfl]
  have e5 : pfv h4 (some p) [1] 10 (va_rf (some h3.2.1)) = some (mj_up h4 p (bO (fun _ => 0) p)) := by
    rw [pfv_o p4 (by rw [List.length_set]; decide) rfl, n3.1]
    rfl
  rw [← hp]
  refine ⟨h1, mj_up h4 p (bO (fun _ => 0) p), ?_, ?_, by rw [up_get, if_pos rfl], ?_, ?_, fun j hj => ?_, n4.1, n4.2⟩
  · rw [e1]; rfl
  · unfold f_B_init
    rw [bd, show newA h1 0 24 = some h2 by rw [e2]; rfl, bd, e3, ← e3', bd, show newQ h3 2 4 = some h4 by rw [e4]; rfl, bd, e5]
    rfl
  · rw [up_get, if_neg (by omega), a4, if_neg (by omega), e3', up_get, if_neg (by omega), a2, if_pos rfl]
  · rw [up_get, if_neg (by omega), a4, if_pos rfl]
  · rw [up_get, if_neg (by omega), a4, if_neg (by omega), e3', up_get, if_neg (by omega), a2, if_neg (by omega), a1, if_neg (by omega)]
theorem Tb_new {h : MH} {p : Nat} (h1 : h.1 p = bO (fun _ => 0) p) (h2 : h.1 (p + 1) = aZ 24 (fun _ => 0)) (h3 : h.1 (p + 2) = rQ (fun _ => none)) : Tb h p := ⟨fun _ => 0, fun _ => 0, fun _ => none, h1, h2, fun _ _ => rfl, h3, fun _ _ => Or.inl rfl⟩
/-- two basins lie apart -/
theorem Tb_apart {h : MH} {p q : Nat} (X : Tb h p) (Y : Tb h q) (hne : p ≠ q) : q + 2 < p ∨ p + 2 < q := by
  obtain ⟨t, f, g, x1, x2, x3, x4, x5⟩ := X
  obtain ⟨t', f', g', y1, y2, y3, y4, y5⟩ := Y
  by_cases c1 : q = p + 1
  · rw [c1, x2] at y1; cases y1
  · by_cases c2 : q = p + 2
    · rw [c2, x4] at y1; cases y1
    · by_cases c3 : p = q + 1
      · rw [c3, y2] at x1; cases x1
      · by_cases c4 : p = q + 2
        · rw [c4, y4] at x1; cases x1
        · omega
/-- all of the class but the images -/
def KX (h : MH) (P : Nat → Nat → Int) : Prop := CO h (P 6 0) (P 0 13) ∧ RO h (P 2) (P 3) (P 4) ∧ TO h (P 1) (P 0 2) (P 0 9) ∧ AO h (P 6) (P 8) (P 0 18) ∧ SO h ∧ Bx h 26 (P 6) ∧ Tb h 29 ∧ TC h (P 11) (P 0 22)
theorem KX.fr {lo hi : Nat} {h h' : MH} {P : Nat → Nat → Int} (X : KX h P) (c : Ch lo hi h h') (k : Hk h h') (hh : 48 ≤ lo ∨ (lo = 32 ∧ hi = 32)) : KX h' P := by
  obtain ⟨x1, x2, x3, x4, x5, x6, x7, x9⟩ := X
  exact ⟨x1.fr c (by omega), x2.fr c (by omega), x3.fr c (by omega), x4.fr c (by omega), x5.fr c (by omega), x6.fr k (c.2 _ (by omega)) (c.2 _ (by omega)) (c.2 _ (by omega)), x7.fr k (c.2 _ (by omega)) (c.2 _ (by omega)) (c.2 _ (by omega)), x9.fr c (by omega)⟩
theorem CR.k {h : MH} {P : Nat → Nat → Int} (X : CR h P) : KX h P := ⟨X.1, X.2.1, X.2.2.1, X.2.2.2.1, X.2.2.2.2.1, X.2.2.2.2.2.1, X.2.2.2.2.2.2.1, X.2.2.2.2.2.2.2.2⟩
theorem KX.cr {h : MH} {P Q : Nat → Nat → Int} (X : KX h P) (I : IM h (Q 9) (Q 10)) (hq : (Q 6 = P 6 ∧ Q 1 = P 1 ∧ Q 2 = P 2 ∧ Q 3 = P 3 ∧ Q 4 = P 4 ∧ Q 8 = P 8 ∧ Q 11 = P 11) ∧ Q 0 13 = P 0 13 ∧ Q 0 2 = P 0 2 ∧ Q 0 9 = P 0 9 ∧ Q 0 18 = P 0 18 ∧ Q 0 22 = P 0 22) : CR h Q := by
  obtain ⟨x1, x2, x3, x4, x5, x6, x7, x9⟩ := X
  obtain ⟨⟨q6, q1, q2, q3, q4, q8, q11⟩, t13, t2, t9, t18, t22⟩ := hq
  unfold CR
  rw [q6, q1, q2, q3, q4, q8, q11, t13, t2, t9, t18, t22]
  exact ⟨x1, x2, x3, x4, x5, x6, x7, I, x9⟩
theorem m_image31 {F : Nat} {k : Nat} (hk : k < 2) : ∀ (d e fu : Nat) (g : MH) (Q : Nat → Nat → Int), e + d = 42 → d < fu → Mr g Q → ∃ g' f, b_M_image_31 F fu (some 34) (zI (k : Int)) (zI (e : Int)) g = some (1, g') ∧ Ch 34 47 g g' ∧ Mr g' (upR (upR Q 9 f) 10 (upI (Q 10) k 1)) ∧ ∀ j, f j = if 42 * k + e ≤ j ∧ j < 42 * k + 42 then Q 6 (j - 42 * k) else Q 9 j := by
  intro d
  induction d with
  | zero =>
    intro e fu g Q he hf M
    obtain ⟨fu, rfl⟩ : ∃ q, fu = q + 1 := ⟨fu - 1, by omega⟩
    obtain ⟨g1, e1, c1, M1⟩ := mr_st M 10 (c := 44) (k := (k : Int)) rfl (by omega) (by omega) 1 (by omega) (show (k : Int) < (2 : Nat) by omega)
    have e1' : ast g (some 44) 1 (zI (k : Int)) (zI 1) = some g1 := e1
    refine ⟨g1, Q 9, ?_, c1, M1.cg (fun j _ => ?_), fun j => by rw [if_neg (by omega)]⟩
    · unfold b_M_image_31
      simp (disch := omega) only [l42, zI_le]
      rw [if_pos (by omega), mg20 M, bd, show (1 : Int32) = zI 1 from rfl, e1']
      rfl
    · rw [Int.toNat_natCast]
      unfold upR
      by_cases c : j = 10
      · rw [if_pos c, if_pos c]
      · rw [if_neg c, if_neg c]
        by_cases c2 : j = 9
        · rw [if_pos c2, c2]
        · rw [if_neg c2]
  | succ d ih =>
    intro e fu g Q he hf M
    obtain ⟨fu, rfl⟩ : ∃ q, fu = q + 1 := ⟨fu - 1, by omega⟩
    have A6 : g.1 40 = aZ 42 (Q 6) := M.2 6 (by omega) (by omega)
    obtain ⟨g1, e1, c1, M1⟩ := mr_st M 9 (c := 43) (k := 42 * (k : Int) + e) rfl (by omega) (by omega) (Q 6 e) (by omega) (show 42 * (k : Int) + e < (84 : Nat) by omega)
    have e1' : ast g (some 43) 0 (zI (42 * (k : Int) + e)) (zI (Q 6 e)) = some g1 := e1
    obtain ⟨g2, f, e2, c2, M2, hf2⟩ := ih (e + 1) fu g1 _ (by omega) (by omega) M1
    refine ⟨g2, f, ?_, c1.tr c2, M2.cg (fun j _ => ?_), fun j => ?_⟩
    · unfold b_M_image_31
      simp (disch := omega) only [l42, zI_le]
      rw [if_neg (by omega), mg19 M, bd, mg15 M, bd, aldN A6 (k := e) (by omega) (by omega), bd, zI_mul, zI_add, e1', bd]
      rw [show (zI (e : Int) + (1 : Int32)) = zI ((e + 1 : Nat) : Int) by rw [l1, zI_add]; rfl]
      exact e2
    · unfold upR
      by_cases c : j = 10
      · rw [if_pos c, if_pos c, if_neg (by decide)]
      · rw [if_neg c, if_neg c]
        by_cases c2 : j = 9
        · rw [if_pos c2, if_pos c2]
        · rw [if_neg c2, if_neg c2, if_neg c2]
    · rw [hf2 j]
      show (if 42 * k + (e + 1) ≤ j ∧ j < 42 * k + 42 then Q 6 (j - 42 * k) else upI (Q 9) (42 * (k : Int) + e).toNat (Q 6 e) j) = _
      rw [show (42 * (k : Int) + e).toNat = 42 * k + e by omega]
      by_cases c : j = 42 * k + e
      · rw [if_neg (by omega), if_pos (by omega), c, upI_s, show 42 * k + e - 42 * k = e by omega]
      · rw [upI_n _ _ c]
        by_cases c2 : 42 * k + (e + 1) ≤ j ∧ j < 42 * k + 42
        · rw [if_pos c2, if_pos (by omega)]
        · rw [if_neg c2, if_neg (by omega)]
theorem alen_i2 {h : MH} {gi : Nat → Option Nat} (H : h.1 32 = .inr (.inl (3, 2, gi))) : alen h (some 32) = some (zI 2) := by
  simp only [alen, H]
  rfl
theorem qld_i {h : MH} {gi : Nat → Option Nat} (H : h.1 32 = .inr (.inl (3, 2, gi))) {k : Nat} (hk : k < 2) : qld h (some 32) 3 (zI k) = some (gi k) := by
  have hc : (zI (k : Int)).toNatClampNeg = k := by rw [zI_clamp (by omega) (by omega)]; omega
  have h0 : (0 : Int32) ≤ zI k := (zI_le (a := 0) (by omega) (by omega) (by omega) (by omega)).mpr (by omega)
  simp only [qld, mj_arq, H, Option.bind_some, hc]
  rw [if_pos ⟨trivial, h0, hk⟩]
theorem qst_i {h : MH} {gi : Nat → Option Nat} (H : h.1 32 = .inr (.inl (3, 2, gi))) {k : Nat} (hk : k < 2) {p : Nat} {t : Nat → Int} (hp : h.1 p = bO t p) : qst h (some 32) 3 [1] (zI k) (some p) = some (mj_up h 32 (.inr (.inl (3, 2, va_up gi k (some p))))) := by
  have hc : (zI (k : Int)).toNatClampNeg = k := by rw [zI_clamp (by omega) (by omega)]; omega
  have h0 : (0 : Int32) ≤ zI k := (zI_le (a := 0) (by omega) (by omega) (by omega) (by omega)).mpr (by omega)
  have hcl : mj_clo h (some p) [1] = true := by
    simp only [mj_clo, mj_obj, hp]
    rfl
  simp only [qst, mj_arq, H, Option.bind_some, hc]
  rw [if_pos ⟨trivial, h0, hk, hcl⟩]
  rfl
set_option maxHeartbeats 4000000 in
theorem s_image {F : Nat} (hF : 10000 ≤ F) (i : Int32) : Ok (f_C_image F (some 3) i) (f_M_image F (some 34) i) := by
  intro h P X
  obtain ⟨k, k1, k2, rfl⟩ := i_ex i
  obtain ⟨E, M, C, D, I⟩ := id X
  obtain ⟨⟨W, Z, K⟩, I2, I3, I4, I5, I6⟩ := id I
  have w4 := W.2.2.2.1
  have B := C.2.2.2.2.2.1
  obtain ⟨gi, y1, y2, y3⟩ := C.2.2.2.2.2.2.2.1
  have x0 : zI (P 6 0) = (0 : Int32) ↔ P 6 0 = 0 := zI_eq (b := 0) (by omega) (by omega) (by omega) (by omega)
  have hw : f_C_within (zI k) (zI 2) = 0 ↔ ¬ (0 ≤ k ∧ k < 2) := s_within0 (b := 2) k1 k2 (by omega) (by omega)
  have hin : f_M_in (zI k) (0 : Int32) (1 : Int32) = 0 ↔ ¬ (0 ≤ k ∧ k < 2) := by
    rw [show f_M_in (zI k) (0 : Int32) (1 : Int32) = if 0 ≤ k ∧ k ≤ 1 then 1 else 0 from s_M_in (a := 0) (b := 1) k1 k2 (by omega) (by omega) (by omega) (by omega), ite_01]
    omega
  by_cases cb : (0 ≤ k ∧ k < 2) ∧ P 6 0 ≠ 0
  · obtain ⟨ck, c0⟩ := cb
    obtain ⟨q, hq⟩ : ∃ q : Nat, k = q := ⟨k.toNat, by omega⟩
    subst hq
    have hq2 : q < 2 := by omega
    -- the class keeps it in the basin p of a heap h3
    have main : ∀ (h3 : MH) (p : Nat) (gi3 : Nat → Option Nat), 48 ≤ p → Tb h3 p → Bx h3 26 (P 6) → KX h3 P → h3.1 32 = .inr (.inl (3, 2, gi3)) → gi3 q = some p → (∀ k : Nat, k < 2 → k ≠ q → gi3 k = gi k ∧ gi3 k ≠ some p ∧ ((P 10 k = 0 ∧ gi k = none) ∨ (P 10 k = 1 ∧ ∃ p', gi k = some p' ∧ 48 ≤ p' ∧ Bx h3 p' (aE (P 9) k) ∧ Wv (aE (P 9) k) ∧ Wk (aE (P 9) k) ∧ aE (P 9) k 0 = 1))) → Es h3 → Mr h3 P → Dn h3 → (∀ j, j < 48 → j ≠ 32 → h3.1 j = h.1 j) → (h.2.1 ≤ h3.2.1 ∧ h3.2.1 ≤ h.2.1 + 20 ∧ h.2.2 ≤ h3.2.2 ∧ h3.2.2 ≤ h.2.2 + 100) → ∃ h4 g2 Q, b_C_image_51 F (some 3) (some p) h3 = some (1, h4) ∧ f_M_image F (some 34) (zI (q : Int)) h4 = some (1, g2) ∧ J g2 Q ∧ Gr h h4 g2 := by
      intro h3 p gi3 hp T3 B3 K3 G3 hgq hoth E3 M3 D3 hlow hgr
      have hap : p + 2 < 26 ∨ 26 + 2 < p := by omega
      obtain ⟨h4, e4, c4, k4, B4⟩ := s_become (F := F) (a := p) (b := 26) (v := P 6) (by omega) hap (by omega) T3 B3 Z (by omega)
      have K4 := K3.fr c4 k4 (Or.inl hp)
      have hpd : p + 2 < h3.2.1 := by
        by_cases z : p + 2 < h3.2.1
        · exact z
        · obtain ⟨t, f, g, t1, t2, t3, t4, t5⟩ := T3
          have := D3.2 (p + 2) (by omega)
          rw [t4] at this
          cases this
      have D4 : Dn h4 := by
        unfold Dn
        rw [c4.1]
        exact ⟨D3.1, fun j hj => (c4.2 j (by omega)).trans (D3.2 j hj)⟩
      have M4 : Mr h4 P := M3.fr c4 (by omega)
      have E4 : Es h4 := c4.es (by omega) E3
      obtain ⟨g0, e0, b0, N0⟩ := mr_pf M4 0 rfl 0
      obtain ⟨g1, f, e5, b5, N1, hf⟩ := m_image31 (F := F) hq2 42 0 F g0 _ rfl (by omega) N0
      have A0 : g0.1 40 = aZ 42 (P 6) := N0.2 6 (by omega) (by omega)
      have haE : ∀ k : Nat, k < 2 → aE f k = if k = q then P 6 else aE (P 9) k := by
        intro k' hk'
        funext j
        by_cases e : k' = q
        · rw [if_pos e]
          unfold aE
          by_cases cj : j < 42
          · rw [if_pos cj, hf, if_pos (by omega), show 42 * k' + j - 42 * q = j by omega]
            rfl
          · rw [if_neg cj, Z j (by omega)]
        · rw [if_neg e]
          unfold aE
          by_cases cj : j < 42
          · rw [if_pos cj, if_pos cj, hf, if_neg (by omega)]
            rfl
          · rw [if_neg cj, if_neg cj]
      refine ⟨h4, g1, _, ?_, ?_, J.fin E4 (P1 := upR (upR P 9 f) 10 (upI (P 10) q 1)) (K4.cr ⟨gi3, (c4.2 32 (by omega)).trans G3, fun k' hk' => ?_, fun p' z1 z2 => ?_⟩ ⟨⟨rfl, rfl, rfl, rfl, rfl, rfl, rfl⟩, rfl, rfl, rfl, rfl, rfl⟩) D4 ?_ (b0.tr b5) N1 ⟨⟨rfl, rfl, rfl, rfl, rfl, rfl, rfl, rfl, rfl⟩, rfl, rfl, rfl, rfl, rfl⟩, ?_⟩
      · unfold b_C_image_51
        rw [cg4 K3.1, bd, b_on T3.choose_spec.choose_spec.choose_spec.1, e4]
        rfl
      · unfold f_M_image
        rw [show (Value.int (0 : Int32)) = Value.int (zI 0) from rfl, e0, bd]
        simp only [hin]
        rw [if_neg (show ¬ ¬ (0 ≤ (q : Int) ∧ (q : Int) < 2) from fun z => z ck), mg15 N0, bd, aldL A0 0 0 rfl (by decide) (by decide), bd]
        simp only [x0]
        rw [if_neg c0, l0]
        exact e5
      · show (upI (P 10) q 1 k' = 0 ∧ gi3 k' = none) ∨ (upI (P 10) q 1 k' = 1 ∧ ∃ p, gi3 k' = some p ∧ 48 ≤ p ∧ Bx h4 p (aE f k') ∧ Wv (aE f k') ∧ Wk (aE f k') ∧ aE f k' 0 = 1)
        rw [haE k' hk']
        by_cases e : k' = q
        · rw [if_pos e, e, upI_s]
          exact Or.inr ⟨rfl, p, hgq, hp, B4, W, K, by omega⟩
        · rw [if_neg e, upI_n _ _ e]
          obtain ⟨o1, o2, o3⟩ := hoth k' hk' e
          rw [o1]
          rcases o3 with o3 | ⟨o3, p', o4, o5, o6, o7⟩
          · exact Or.inl o3
          · have hne : p' ≠ p := fun z => o2 (by rw [o1, o4, z])
            have := Tb_apart o6.2 T3 hne
            exact Or.inr ⟨o3, p', o4, o5, o6.fr k4 (c4.2 _ (by omega)) (c4.2 _ (by omega)) (c4.2 _ (by omega)), o7⟩
      · rcases (show q = 0 ∨ q = 1 by omega) with rfl | rfl
        · rw [hgq] at z1
          cases z1
          exact (hoth 1 (by omega) (by omega)).2.1 z2
        · rw [hgq] at z2
          cases z2
          exact (hoth 0 (by omega) (by omega)).2.1 z1
      · refine ⟨⟨W, Z, K⟩, Or.inr (show P 6 0 = 1 by omega), I3, I4, I5, I6⟩
      · obtain ⟨gr1, gr2, gr3, gr4⟩ := hgr
        have e1 : g1.2 = h3.2 := (b5.1.trans b0.1).trans c4.1
        refine ⟨by rw [e1]; exact gr1, by rw [e1]; exact gr2, by rw [e1]; exact gr3, by rw [e1]; exact gr4, ?_, ?_⟩
        · rw [b5.2 2 (by omega), b0.2 2 (by omega), c4.2 2 (by omega), hlow 2 (by omega) (by omega)]
        · rw [c4.2 2 (by omega), hlow 2 (by omega) (by omega)]
    have pre : ∀ R : Option (Int32 × MH), (if gi q = none then (Option.bind (newO h 1) fun h14 => Option.bind (f_B_init (some h.2.1) h14) fun h16 => Option.bind (gfr h16 (some 3) [10] 6) fun x18 => Option.bind (qst h16 x18 3 [1] (zI (q : Int)) (some h.2.1)) fun h20 => b_C_image_51 F (some 3) (some h.2.1) h20) else b_C_image_51 F (some 3) (gi q) h) = R → f_C_image F (some 3) (zI (q : Int)) h = R := by
      intro R hR
      rw [← hR]
      unfold f_C_image
      rw [cg6 C.1, bd, alen_i2 y1, bd]
      simp only [hw]
      rw [if_neg (show ¬ ¬ (0 ≤ (q : Int) ∧ (q : Int) < 2) from fun z => z ck), cf8 C.1, bd]
      simp only [x0]
      rw [if_neg c0, bd, qld_i y1 hq2, bd]
    rcases y2 q hq2 with ⟨z1, z2⟩ | ⟨z1, p, z2, z3, z4, z5⟩
    · -- a new one
      obtain ⟨h1, h2, n1, n2, n3, n4, n5, n6, n7, n8⟩ := new_basin h
      obtain ⟨p, hp⟩ : ∃ p, p = h.2.1 := ⟨_, rfl⟩
      rw [← hp] at n2 n3 n4 n5 n6 n7
      have hp48 : 48 ≤ p := by rw [hp]; exact D.1
      have cA : Ch p (p + 2) h (h2.1, h.2) := ⟨rfl, fun j hj => n6 j hj⟩
      have kA : Hk h (h2.1, h.2) := by
        intro j hj hh
        obtain ⟨s, n, mi, e⟩ := hh
        by_cases z : j < p ∨ p + 2 < j
        · exact n6 j z
        · rw [D.2 j (by omega)] at e
          have z : (0 : Nat) = 3 := congrArg (fun c : MC => match c with
            | .inr (.inr q) => q.2.length
            | _ => 0) e
          omega
      have C2 : KX (h2.1, h.2) P := C.k.fr cA kA (Or.inl hp48)
      have y1' : h2.1 32 = .inr (.inl (3, 2, gi)) := (n6 32 (by omega)).trans y1
      have T2 : Tb h2 p := Tb_new n3 n4 n5
      have eq := qst_i (h := h2) y1' hq2 (p := p) (t := fun _ => 0) n3
      obtain ⟨h3, hh3⟩ : ∃ h3, h3 = mj_up h2 32 (.inr (.inl (3, 2, va_up gi q (some p)))) := ⟨_, rfl⟩
      have c3 : Ch 32 32 h2 h3 := by rw [hh3]; exact Ch_up h2 _ (by omega) (by omega)
      have k3 : Hk h2 h3 := c3.hk (by omega)
      have C2' : KX h2 P := C2
      have C3 : KX h3 P := C2'.fr c3 k3 (Or.inr ⟨rfl, rfl⟩)
      have kall : Hk h h3 := fun j hj hh => by
        have h1 := kA j hj hh
        have h1' : h2.1 j = h.1 j := h1
        obtain ⟨s, n, mi, e⟩ := hh
        rw [← h1']
        exact k3 j hj ⟨s, n, mi, h1'.trans e⟩
      have hcell : ∀ j, (j < p ∨ p + 2 < j) → j ≠ 32 → h3.1 j = h.1 j := fun j hj h32 => (c3.2 j (by omega)).trans (n6 j hj)
      obtain ⟨h4, g2, Q, f1, f2, f3, f4⟩ := main h3 p (va_up gi q (some p)) hp48 (T2.fr k3 (c3.2 _ (by omega)) (c3.2 _ (by omega)) (c3.2 _ (by omega))) C3.2.2.2.2.2.1 C3 (by rw [hh3, up_get, if_pos rfl]) (by unfold va_up; rw [if_pos rfl]) (fun k' hk' hne => by
        have e1 : va_up gi q (some p) k' = gi k' := by unfold va_up; rw [if_neg hne]
        rw [e1]
        rcases y2 k' hk' with o | ⟨o3, p', o4, o5, o6, o7⟩
        · exact ⟨rfl, (by rw [o.2]; intro z; cases z), Or.inl o⟩
        · have hp' : p' < p := by
            by_cases z : p' < p
            · exact z
            · have := D.2 p' (by omega)
              rw [o6.1.1] at this
              cases this
          have hp'2 : p' + 2 < p := by
            by_cases z : p' + 2 < p
            · exact z
            · obtain ⟨t, f, g, t1, t2, t3, t4, t5⟩ := o6.2
              have := D.2 (p' + 2) (by omega)
              rw [t4] at this
              cases this
          refine ⟨rfl, (by rw [o4]; intro z; cases z; omega), Or.inr ⟨o3, p', o4, o5, o6.fr kall (hcell _ (by omega) (by omega)) (hcell _ (by omega) (by omega)) (hcell _ (by omega) (by omega)), o7⟩⟩)
        ⟨(hcell 0 (by omega) (by omega)).trans E.1, (hcell 1 (by omega) (by omega)).trans E.2⟩
        ⟨(hcell 34 (by omega) (by omega)).trans M.1, fun a a1 a2 => (hcell (34 + a) (by omega) (by omega)).trans (M.2 a a1 a2)⟩
        ⟨by rw [c3.1, n7]; omega, fun j hj => by
          rw [c3.1, n7] at hj
          rw [hcell j (by omega) (by omega)]
          exact D.2 j (by omega)⟩
        (fun j hj h32 => hcell j (by omega) h32) (by rw [c3.1, n7, n8]; omega)
      refine ⟨1, h4, g2, Q, pre _ ?_, f2, f3, f4⟩
      rw [if_pos z2, n1, bd, ← hp, n2, bd, show gfr h2 (some 3) [10] 6 = some (some 32) from cg6 C2'.1, bd, eq, bd, ← hh3]
      exact f1
    · obtain ⟨h4, g2, Q, f1, f2, f3, f4⟩ := main h p gi z3 z4.2 B C.k y1 z2 (fun k' hk' hne => ⟨rfl, fun z => by
        rcases (show (k' = 0 ∧ q = 1) ∨ (k' = 1 ∧ q = 0) by omega) with ⟨rfl, rfl⟩ | ⟨rfl, rfl⟩
        · exact y3 p z z2
        · exact y3 p z2 z, y2 k' hk'⟩) E M D (fun j _ _ => rfl) (by omega)
      refine ⟨1, h4, g2, Q, pre _ ?_, f2, f3, f4⟩
      rw [z2, if_neg (by intro z; cases z)]
      exact f1
  · obtain ⟨g, e, c, X'⟩ := X.thr
    have M' := X'.2.1
    have A0 : g.1 40 = aZ 42 (P 6) := M'.2 6 (by omega) (by omega)
    refine ⟨if 0 ≤ k ∧ k < 2 then -1000002 else -1000001, h, g, th P, ?_, ?_, X', Gr_eq c (by omega)⟩
    · unfold f_C_image
      rw [cg6 C.1, bd, alen_i2 y1, bd]
      simp only [hw]
      by_cases ck : 0 ≤ k ∧ k < 2
      · rw [if_neg (show ¬ ¬ (0 ≤ k ∧ k < 2) from fun z => z ck), if_pos ck, cf8 C.1, bd]
        simp only [x0]
        rw [if_pos (by
          by_cases z : P 6 0 = 0
          · exact z
          · exact absurd ⟨ck, z⟩ cb)]
      · rw [if_pos ck, if_neg ck]
    · unfold f_M_image
      rw [e, bd]
      simp only [hin]
      by_cases ck : 0 ≤ k ∧ k < 2
      · rw [if_neg (show ¬ ¬ (0 ≤ k ∧ k < 2) from fun z => z ck), if_pos ck, mg15 M', bd, aldL A0 0 0 rfl (by decide) (by decide), bd]
        simp only [x0]
        rw [if_pos (by
          by_cases z : P 6 0 = 0
          · exact z
          · exact absurd ⟨ck, z⟩ cb)]
      · rw [if_pos ck, if_neg ck]
