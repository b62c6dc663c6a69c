/-! ===== reach, the call ===== -/
section
variable {F : Nat} {v : Nat → Int} {K : Nat → Int}
theorem m_reach19 (W : Wv v) : ∀ (d k fu : Nat) (g : MH) (b : Nat → Int), k + d = 576 → d < fu → g.1 34 = mO K → g.1 40 = aZ 42 v → g.1 46 = aZ 576 b → (∀ j : Nat, j < k → b j = if j = (ndV v).toNat then 1 else 0) →
    ∃ b', (∀ j : Nat, j < 576 → b' j = if j = (ndV v).toNat then 1 else 0) ∧ b_M_reach_19 F fu (some 34) (zI (k : Int)) g = b_M_reach_58 F F (some 34) 0 1 (mj_up g 46 (aZ 576 b')) := by
  have nr := ndV_r W
  intro d
  induction d with
  | zero =>
    intro k fu g b hk hf M A B hb
    obtain ⟨fu, rfl⟩ : ∃ q, fu = q + 1 := ⟨fu - 1, by omega⟩
    refine ⟨b, fun j hj => hb j (by omega), ?_⟩
    unfold b_M_reach_19
    simp (disch := omega) only [l576, zI_le]
    rw [if_pos (by omega), ← B, up_id]
  | succ d ih =>
    intro k fu g b hk hf M A B hb
    obtain ⟨fu, rfl⟩ : ∃ q, fu = q + 1 := ⟨fu - 1, by omega⟩
    have x576 : (576 : Int32) ≤ zI (k : Int) ↔ 576 ≤ (k : Int) := zI_le (a := 576) (by omega) (by omega) (by omega) (by omega)
    have xn : zI (k : Int) = zI (ndV v) ↔ (k : Int) = ndV v := zI_eq (by omega) (by omega) (by omega) (by omega)
    have e47 : ∀ x : Int, b_M_reach_47 F (b_M_reach_19 F fu) (some 34) (zI (k : Int)) (some 46) (zI (k : Int)) (zI x) g = b_M_reach_19 F fu (some 34) (zI ((k + 1 : Nat) : Int)) (mj_up g 46 (aZ 576 (upI b k x))) := by
      intro x
      unfold b_M_reach_47
      rw [astN B (by decide) (by omega) (by omega), bd, l1, zI_add]
      rfl
    have hu : b_M_reach_19 F (fu + 1) (some 34) (zI (k : Int)) g = b_M_reach_19 F fu (some 34) (zI ((k + 1 : Nat) : Int)) (mj_up g 46 (aZ 576 (upI b k (if k = (ndV v).toNat then 1 else 0)))) := by
      rw [← e47]
      conv => lhs; unfold b_M_reach_19
      simp only [x576]
      rw [if_neg (show ¬ 576 ≤ (k : Int) by omega), m_best M, bd, show gfr g (some 34) [11] 15 = some (some 40) from gfr_o M rfl rfl, bd, s_M_node A W, bd]
      simp only [xn]
      by_cases c : (k : Int) = ndV v
      · rw [if_pos c, if_pos (by omega)]; rfl
      · rw [if_neg c, if_neg (by omega)]; rfl
    obtain ⟨b', h1, h2⟩ := ih (k + 1) fu (mj_up g 46 (aZ 576 (upI b k (if k = (ndV v).toNat then 1 else 0)))) (upI b k (if k = (ndV v).toNat then 1 else 0)) (by omega) (by omega) (by rw [up_get, if_neg (by decide)]; exact M) (by rw [up_get, if_neg (by decide)]; exact A) (by rw [up_get, if_pos rfl]) (fun j hj => by
      by_cases e : j = k
      · rw [e, upI_s]
      · rw [upI_n _ _ e]; exact hb j (by omega))
    exact ⟨b', h1, by rw [hu, h2, up_up]⟩
theorem Pw_b {b : Nat → Int} (W : Wv v) (C : ∀ j p q : Nat, j < 576 → (p : Int) < v 4 → q < 8 → Cu v b j p q) : ∀ (n : Nat) {k c k' : Int}, 0 ≤ k → k < 576 → b k.toNat = 1 → Pw v 0 n k c k' → b k'.toNat = 1
  | 0, k, c, k', h1, h2, h3, h => by
    obtain ⟨e, -⟩ := h
    rw [e]
    exact h3
  | n + 1, k, c, k', h1, h2, h3, h => by
    obtain ⟨i, m, q, c', a1, a2, a3, hp, he, -⟩ := h
    have hq := Pw_r W n h1 h2 hp
    have hb := Pw_b W C n h1 h2 h3 hp
    have := C q.toNat i m.toNat (by omega) a1 (by omega)
    rw [Int.toNat_of_nonneg hq.1, Int.toNat_of_nonneg a2] at this
    exact this hb k' he
theorem Pw_mi {mi fi : Nat → Int} (W : Wv v) (E : Ex v 0 (-1) 1000000000 mi fi) : ∀ (n : Nat) {c k' : Int}, Pw v 0 n (ndV v) c k' → mi (pj (leV v) k').toNat < 1000000
  | 0, c, k', h => by
    obtain ⟨e, -⟩ := h
    rw [e, E.1.1]
    decide
  | n + 1, c, k', h => by
    obtain ⟨i, m, q, c', a1, a2, a3, hp, he, -⟩ := h
    have w4 := W.2.2.2.1
    have nr := ndV_r W
    have hq := Pw_r W n nr.1 nr.2 hp
    have ih := Pw_mi W E n hp
    have pr := pj_r (le := leV v) hq.1 hq.2
    have ht : (((pj (leV v) q).toNat : Nat) : Int) = pj (leV v) q := Int.toNat_of_nonneg pr.1
    obtain ⟨-, -, e3, e4, -⟩ := E
    obtain ⟨b1, -, -⟩ := e3 _ (by omega) ih
    obtain ⟨j', f1, f2⟩ := eV_pj (show i < 4 by omega) (show pj (leV v) q = pj (leV v) (pj (leV v) q) from (pj_pj _ _).symm) he
    have f1' : eV v i m 0 (((pj (leV v) q).toNat : Nat) : Int) = some j' := by rw [ht]; exact f1
    have := (e4 (pj (leV v) q).toNat (by omega) (by omega) ih i m j' a1 a2 a3 f1').1
    have hm := vMin_r W a1 m
    rw [f2, Int.toNat_natCast] at this
    omega
theorem reach_same {mi fi b : Nat → Int} (W : Wv v) (E : Ex v 0 (-1) 1000000000 mi fi) (J : Jr v (ndV v) b) (C : ∀ j p q : Nat, j < 576 → (p : Int) < v 4 → q < 8 → Cu v b j p q) : orC (fun s => decide (mi s ≠ 1000000)) 576 = orC (fun s => decide (b s = 1)) 576 := by
  have nr := ndV_r W
  apply orC_eq
  intro j
  constructor
  · rintro ⟨s, s1, s2, s3⟩
    have s2 : mi s ≠ 1000000 := by simpa using s2
    have hr := E.2.1 s s1
    obtain ⟨-, hp, hh⟩ := E.2.2.1 s s1 (by omega)
    rcases hh with hh | ⟨-, n, hf⟩
    · have := pj_3 (leV v) (ndV v)
      exact ⟨(ndV v).toNat, by omega, by simpa using J.2.1, by omega⟩
    · obtain ⟨i, m, x1, c', k', a1, a2, a3, a4, -, a6, a7, -⟩ := Fw_Pw W nr.1 nr.2 n hf
      have h1 := eV_r W nr.1 nr.2 a4
      have hb1 : b x1.toNat = 1 := by
        have := C (ndV v).toNat i m.toNat (by omega) a1 (by omega)
        rw [Int.toNat_of_nonneg nr.1, Int.toNat_of_nonneg a2] at this
        exact this J.2.1 x1 a4
      have hk := Pw_r W n h1.1 h1.2 a6
      have hb2 := Pw_b W C n h1.1 h1.2 hb1 a6
      have := pj_3 (leV v) k'
      exact ⟨k'.toNat, by omega, by simpa using hb2, by omega⟩
  · rintro ⟨s, s1, s2, s3⟩
    have s2 : b s = 1 := by simpa using s2
    obtain ⟨n, c, hp⟩ := J.2.2 s s1 s2
    have hm := Pw_mi W E n hp
    have pr := pj_r (le := leV v) (k := (s : Int)) (by omega) (by omega)
    have := pj_3 (leV v) (s : Int)
    refine ⟨(pj (leV v) s).toNat, by omega, ?_, by omega⟩
    simpa using (show mi (pj (leV v) s).toNat ≠ 1000000 by omega)
end
theorem s_reach {F : Nat} (hF : 1000000000000 ≤ F) : Ok (f_C_reach F (some 3)) (f_M_reach F (some 34)) := by
  intro h P X
  obtain ⟨E, M, C, D, I⟩ := id X
  obtain ⟨⟨W, Z, K⟩, I2, I3, I4, I5, I6⟩ := id I
  have B := C.2.2.2.2.2.1
  have x0 : zI (P 6 0) = (0 : Int32) ↔ P 6 0 = 0 := zI_eq (b := 0) (by omega) (by omega) (by omega) (by omega)
  by_cases c0 : P 6 0 = 0
  · obtain ⟨g, e, c, X'⟩ := X.thr
    have M' := X'.2.1
    have A0 : g.1 40 = aZ 42 (P 6) := M'.2 6 (by omega) (by omega)
    refine ⟨-1000002, h, g, th P, ?_, ?_, X', Gr_eq c (by omega)⟩
    · unfold f_C_reach
      rw [cf8 C.1, bd]
      simp only [x0]
      rw [if_pos c0]
    · unfold f_M_reach
      rw [e, bd, mg15 M', bd, aldL A0 0 0 rfl (by decide) (by decide), bd]
      simp only [x0]
      rw [if_pos c0]
  · obtain ⟨R, S⟩ := C.2.2.2.2.1
    obtain ⟨h1, R1, M1, e1, m1, S1, X1, z1⟩ := s_explore (F := F) W (less := 0) (by omega) (by omega) (en := -1) (by omega) (a := 26) (by omega) E B.1 S
    have hM := z1 rfl
    subst hM
    have C1 := C.srch m1.c ⟨R1, S1⟩
    have hsink := s_B_sinks B.1.1 W
    have hcells : b_S_cellsReached_4 F h1 F (some 17) (0 : Int32) (0 : Int32) = some (nI (orC (fun s => decide (R1 2 s ≠ 1000000)) 576)) := s_cells4 (F := F) S1 (Ex_Rg W X1) 576 0 F rfl (by omega)
    obtain ⟨g0, e0, b0, N0⟩ := mr_pf (M.fr m1.c (by omega)) 0 rfl 0
    have A0 : g0.1 40 = aZ 42 (P 6) := N0.2 6 (by omega) (by omega)
    obtain ⟨b1, y1, y2⟩ := m_reach19 (F := F) W 576 0 F g0 (P 12) rfl (by omega) N0.1 A0 (N0.2 12 (by omega) (by omega)) (fun j hj => by omega)
    have nr := ndV_r W
    obtain ⟨b2, J2, C2, y3⟩ := q58 (F := F) (K := upR P 0 (upI (P 0) 0 0) 0) W (by omega) nr 576 F (mj_up g0 46 (aZ 576 b1)) b1 (by
      have := (sumN_01 (f := b1) 576 (fun k hk => by rw [y1 k hk]; split <;> omega)).1
      omega) (by omega) (by rw [up_get, if_neg (by decide)]; exact N0.1) (by rw [up_get, if_neg (by decide)]; exact A0) (by rw [up_get, if_pos rfl]) ⟨fun k hk => by rw [y1 k hk]; split <;> omega, by rw [y1 _ (by omega), if_pos rfl], fun k hk hb => by
        rw [y1 k hk] at hb
        by_cases c : k = (ndV (P 6)).toNat
        · exact ⟨0, 0, by omega, rfl⟩
        · rw [if_neg c] at hb
          omega⟩
    rw [up_up] at y3
    have same := reach_same W X1 J2 C2
    obtain ⟨d1, N1⟩ := mr_ar N0 12 (c := 46) rfl (by omega) (by omega) b2
    refine ⟨nI (orC (fun s => decide (b2 s = 1)) 576), h1, _, _, ?_, ?_, J.fin (m1.c.es (by omega) E) C1 (D.fr m1.c (by omega)) ?_ (b0.tr d1) N1 ⟨⟨rfl, rfl, rfl, rfl, rfl, rfl, rfl, rfl, rfl⟩, rfl, rfl, rfl, rfl, rfl⟩, Gr_2 m1.c (b0.tr d1) (by omega) (by omega)⟩
    · unfold f_C_reach
      rw [cf8 C.1, bd]
      simp only [x0]
      rw [if_neg c0, cg3 C.1, bd, cg4 C.1, bd, bd, b_on B.1.1, hsink, bd, sr_on S, lm1, e1, bd, cg3 C1.1, bd, sr_on S1]
      unfold f_S_cellsReached
      rw [hcells, bd, same]
    · unfold f_M_reach
      rw [show (Value.int (0 : Int32)) = Value.int (zI 0) from rfl, e0, bd, mg15 N0, bd, aldL A0 0 0 rfl (by decide) (by decide), bd]
      simp only [x0]
      rw [if_neg c0, show (0 : Int32) = zI ((0 : Nat) : Int) from rfl, y2]
      exact y3
    · exact I
