/-! ===== the law's start holds ===== -/
theorem mk_n {cs : List Nat} {ci : Nat} (hc : cs.contains ci = true) (l : List (Nat × Nat × Nat)) (h : MH) (N : Nat) (hN : h.2.1 = N) (hl : ∀ q ∈ l, q.1 < (o_of ci).length) : ∃ h2 h', newO h ci = some h2 ∧ ini cs N l h2 = some h' ∧ h'.1 N = oB ci (inF (o_of ci) l (N + 1)) ∧ (∀ i q, l[i]? = some q → h'.1 (N + 1 + i) = .inl (q.2.1, q.2.2, fun _ => 0)) ∧ (∀ j, (j < N ∨ N + 1 + l.length ≤ j) → h'.1 j = h.1 j) ∧ h'.2.1 = N + 1 + l.length ∧ h'.2.2 = h.2.2 + (o_of ci).length + inS l := by
  subst hN
  exact mk_ini hc l h hl
def Sx (N M : Nat) (h h' : MH) : Prop := ∀ j, j ≠ 3 → (j < N ∨ M ≤ j) → h'.1 j = h.1 j
theorem Sx.tr {N M N' M' : Nat} {h h1 h2 : MH} (a : Sx N M h h1) (b : Sx N' M' h1 h2) (q1 : N ≤ N') (q2 : M ≤ M') : Sx N M' h h2 := fun j hj hh => (b j hj (by omega)).trans (a j hj (by omega))
theorem W_zero : Wv (fun _ => 0) := by
  have z : ∀ b : Int, 0 ≤ b → (0 : Int) ≤ 0 ∧ (0 : Int) ≤ b := fun b hb => ⟨Int.le_refl 0, hb⟩
  exact ⟨z 8 (by decide), z 5 (by decide), z 3 (by decide), z 4 (by decide), fun i hi => absurd (show (i : Int) < 0 from hi) (by omega), ⟨Int.le_refl 0, (show (0 : Int) < 16777216 by decide)⟩, z 23 (by decide), z 7 (by decide), z 1 (by decide), z 50000 (by decide), fun k _ => z 9 (by decide)⟩
theorem law_start {L : Nat} {xs : Nat → Int32} : ∃ h3 h5 h7, f_C_init 1000000000000 (some 3) (newo (mj_init L xs) 10 (o_of 10)) = some h3 ∧ newO h3 11 = some h5 ∧ h3.2.1 = 34 ∧ f_M_init (some 34) h5 = some h7 ∧ J h7 (fun _ _ => 0) ∧ h7.1 2 = .inl (0, L, xs) ∧ h7.2.1 = 48 ∧ h7.2.2 ≤ 100000 := by
  obtain ⟨h1, hh1⟩ : ∃ h1, h1 = newo (mj_init L xs) 10 (o_of 10) := ⟨_, rfl⟩
  have n1 : h1.2.1 = 4 ∧ h1.2.2 = 10 := by rw [hh1]; exact ⟨rfl, rfl⟩
  have a1 : h1.1 3 = oB 10 o_10 := by rw [hh1]; rfl
  have b1 : ∀ j, j ≠ 3 → h1.1 j = (mj_init L xs).1 j := fun j hj => by
    rw [hh1]
    exact (newo_f (mj_init L xs) 10 (o_of 10)).2.1 j hj
  rw [← hh1]
  -- the rows
  obtain ⟨h2, hr, e2, er, r1, r2, r3, r4, r5⟩ := mk_n (cs := [5]) (ci := 5) rfl [(0, 0, 320), (1, 0, 8), (2, 0, 8)] h1 4 n1.1 (by decide)
  have gr : gfr hr (some 4) [5] 1 = some (some 6) := gfr_o r1 rfl rfl
  have c6 : hr.1 6 = aZ 8 (fun _ => 0) := r2 1 (1, 0, 8) rfl
  have ef := s_fillA (F := 1000000000000) (x := -1) (by omega) (by omega) (by omega) c6
  obtain ⟨h4, hh4⟩ : ∃ h4, h4 = mj_up hr 6 (aZ 8 (fun j => if j < 8 then -1 else 0)) := ⟨_, rfl⟩
  have e4 : f_Rw_init 1000000000000 (some 4) h2 = some h4 := by
    rw [ini_Rw, er, bd, gr, bd, show f_J_fill 1000000000000 (some 6) (-1 : Int32) hr = _ from ef, ← hh4]
    rfl
  have f4 : ∀ j, j ≠ 6 → h4.1 j = hr.1 j := fun j hj => by rw [hh4, up_get, if_neg hj]
  have c4 : h4.1 6 = aZ 8 (fun j => if j < 8 then -1 else 0) := by rw [hh4, up_get, if_pos rfl]
  have m4 : h4.2.1 = 8 ∧ h4.2.2 ≤ 400 := by
    rw [hh4]
    refine ⟨r4, ?_⟩
    show hr.2.2 ≤ 400
    rw [r5, n1.2]
    decide
  obtain ⟨h6, e6, t6, f6, k6⟩ := pf3 (h := h4) (fs := o_10) ((f4 3 (by omega)).trans ((r3 3 (by omega)).trans a1)) (k := 0) (by decide) 4
  have s6 : Sx 4 8 h1 h6 := fun j hj hh => (f6 j hj).trans ((f4 j (by omega)).trans (r3 j (by simp only [List.length]; omega)))
  have n6 : h6.2.1 = 8 ∧ h6.2.2 ≤ 400 := by rw [k6]; exact m4
  -- the tape
  obtain ⟨h8, h10, e8, e10, u1, u2, u3, u4, u5⟩ := mk_n (cs := [9]) (ci := 9) rfl [(0, 0, 120)] h6 8 n6.1 (by decide)
  obtain ⟨h12, e12, t12, f12, k12⟩ := pf3 (h := h10) ((u3 3 (by omega)).trans t6) (k := 1) (by decide) 8
  have s12 : Sx 8 10 h6 h12 := fun j hj hh => (f12 j hj).trans (u3 j (by simp only [List.length]; omega))
  have n12 : h12.2.1 = 10 ∧ h12.2.2 ≤ 600 := by
    rw [k12]
    refine ⟨u4, ?_⟩
    rw [u5]
    have : (o_of 9).length + inS [(0, 0, 120)] = 126 := by decide
    omega
  -- the acts
  obtain ⟨h14, h16, e14, e16, v1, v2, v3, v4, v5⟩ := mk_n (cs := [0]) (ci := 0) rfl [(0, 0, 24), (1, 0, 24), (2, 0, 24), (3, 0, 24), (4, 0, 24), (5, 0, 24)] h12 10 n12.1 (by decide)
  obtain ⟨h18, e18, t18, f18, k18⟩ := pf3 (h := h16) ((v3 3 (by omega)).trans t12) (k := 2) (by decide) 10
  have s18 : Sx 10 17 h12 h18 := fun j hj hh => (f18 j hj).trans (v3 j (by simp only [List.length]; omega))
  have n18 : h18.2.1 = 17 ∧ h18.2.2 ≤ 800 := by
    rw [k18]
    refine ⟨v4, ?_⟩
    rw [v5]
    have : (o_of 0).length + inS [(0, 0, 24), (1, 0, 24), (2, 0, 24), (3, 0, 24), (4, 0, 24), (5, 0, 24)] = 152 := by decide
    omega
  -- the search
  obtain ⟨h20, h22, e20, e22, w1, w2, w3, w4, w5⟩ := mk_n (cs := [6]) (ci := 6) rfl [(0, 0, 192), (1, 0, 576), (2, 0, 576), (3, 0, 576), (4, 0, 576), (5, 0, 21), (6, 0, 10), (7, 0, 10)] h18 17 n18.1 (by decide)
  obtain ⟨h24, e24, t24, f24, k24⟩ := pf3 (h := h22) ((w3 3 (by omega)).trans t18) (k := 3) (by decide) 17
  have s24 : Sx 17 26 h18 h24 := fun j hj hh => (f24 j hj).trans (w3 j (by simp only [List.length]; omega))
  have n24 : h24.2.1 = 26 ∧ h24.2.2 ≤ 4000 := by
    rw [k24]
    refine ⟨w4, ?_⟩
    rw [w5]
    have : (o_of 6).length + inS [(0, 0, 192), (1, 0, 576), (2, 0, 576), (3, 0, 576), (4, 0, 576), (5, 0, 21), (6, 0, 10), (7, 0, 10)] = 2551 := by decide
    omega
  -- two basins
  obtain ⟨h26, h28, e26, e28, x1, x2, x3, x4, x5, x6⟩ := new_basin h24
  rw [n24.1] at e28 x1 x2 x3 x4 x5
  obtain ⟨h30, e30, t30, f30, k30⟩ := pf3 (h := h28) ((x4 3 (by omega)).trans t24) (k := 4) (by decide) 26
  have s30 : Sx 26 29 h24 h30 := fun j hj hh => (f30 j hj).trans (x4 j (by omega))
  have n30 : h30.2.1 = 29 ∧ h30.2.2 ≤ 4100 := by
    rw [k30]
    exact ⟨x5, by omega⟩
  obtain ⟨h32, h34, e32, e34, y1, y2, y3, y4, y5, y6⟩ := new_basin h30
  rw [n30.1] at e34 y1 y2 y3 y4 y5
  obtain ⟨h36, e36, t36, f36, k36⟩ := pf3 (h := h34) ((y4 3 (by omega)).trans t30) (k := 5) (by decide) 29
  have s36 : Sx 29 32 h30 h36 := fun j hj hh => (f36 j hj).trans (y4 j (by omega))
  have n36 : h36.2.1 = 32 ∧ h36.2.2 ≤ 4200 := by
    rw [k36]
    exact ⟨y5, by omega⟩
  -- the images, the trace
  obtain ⟨h38, hh38⟩ : ∃ h38, h38 = newq h36 3 2 := ⟨_, rfl⟩
  have e38 : newQ h36 3 2 = some h38 := by rw [hh38]; rfl
  have f38 : ∀ j, h38.1 j = if j = 32 then .inr (.inl (3, 2, fun _ => none)) else h36.1 j := fun j => by
    rw [hh38, ← n36.1]
    rfl
  have n38 : h38.2.1 = 33 ∧ h38.2.2 ≤ 4300 := by
    rw [hh38]
    exact ⟨by show h36.2.1 + 1 = 33; omega, by show h36.2.2 + 2 ≤ 4300; omega⟩
  obtain ⟨h40, e40, t40, f40, k40⟩ := pf3 (h := h38) (by rw [f38, if_neg (by omega)]; exact t36) (k := 6) (by decide) 32
  have s40 : Sx 32 33 h36 h40 := fun j hj hh => (f40 j hj).trans (by rw [f38, if_neg (by omega)])
  have n40 : h40.2.1 = 33 ∧ h40.2.2 ≤ 4300 := by rw [k40]; exact n38
  obtain ⟨h42, hh42⟩ : ∃ h42, h42 = newa h40 0 17 := ⟨_, rfl⟩
  have e42 : newA h40 0 17 = some h42 := by rw [hh42]; rfl
  have f42 : ∀ j, h42.1 j = if j = 33 then .inl (0, 17, fun _ => 0) else h40.1 j := fun j => by
    rw [hh42, ← n40.1]
    rfl
  have n42 : h42.2.1 = 34 ∧ h42.2.2 ≤ 4400 := by
    rw [hh42]
    exact ⟨by show h40.2.1 + 1 = 34; omega, by show h40.2.2 + 17 ≤ 4400; omega⟩
  obtain ⟨h44, e44, t44, f44, k44⟩ := pf3 (h := h42) (by rw [f42, if_neg (by omega)]; exact t40) (k := 7) (by decide) 33
  have s44 : Sx 33 34 h40 h44 := fun j hj hh => (f44 j hj).trans (by rw [f42, if_neg (by omega)])
  have n44 : h44.2.1 = 34 ∧ h44.2.2 ≤ 4400 := by rw [k44]; exact n42
  -- the reference
  obtain ⟨h46, h7, e46, e7, z1, z2, z3, z4, z5⟩ := mk_n (cs := [11]) (ci := 11) rfl [(1, 0, 120), (10, 0, 8), (11, 0, 8), (12, 0, 320), (14, 0, 42), (15, 0, 42), (16, 0, 42), (17, 0, 1008), (19, 0, 84), (20, 1, 2), (21, 0, 16), (23, 0, 576), (24, 0, 2880)] h44 34 n44.1 (by decide)
  have s7 : Sx 34 48 h44 h7 := fun j hj hh => z3 j (by simp only [List.length]; omega)
  have n7 : h7.2.1 = 48 ∧ h7.2.2 ≤ 100000 := by
    refine ⟨z4, ?_⟩
    rw [z5]
    have : (o_of 11).length + inS [(1, 0, 120), (10, 0, 8), (11, 0, 8), (12, 0, 320), (14, 0, 42), (15, 0, 42), (16, 0, 42), (17, 0, 1008), (19, 0, 84), (20, 1, 2), (21, 0, 16), (23, 0, 576), (24, 0, 2880)] = 5173 := by decide
    omega
  -- how each stage is seen at the end
  have g44 : Sx 33 48 h40 h7 := s44.tr s7 (by omega) (by omega)
  have g40 : Sx 32 48 h36 h7 := s40.tr g44 (by omega) (by omega)
  have g36 : Sx 29 48 h30 h7 := s36.tr g40 (by omega) (by omega)
  have g30 : Sx 26 48 h24 h7 := s30.tr g36 (by omega) (by omega)
  have g24 : Sx 17 48 h18 h7 := s24.tr g30 (by omega) (by omega)
  have g18 : Sx 10 48 h12 h7 := s18.tr g24 (by omega) (by omega)
  have g12 : Sx 8 48 h6 h7 := s12.tr g18 (by omega) (by omega)
  have g6 : Sx 4 48 h1 h7 := s6.tr g12 (by omega) (by omega)
  have hrow : ∀ j, 4 ≤ j → j < 8 → h7.1 j = h4.1 j := fun j q1 q2 => (g12 j (by omega) (by omega)).trans (f6 j (by omega))
  have htape : ∀ j, 8 ≤ j → j < 10 → h7.1 j = h10.1 j := fun j q1 q2 => (g18 j (by omega) (by omega)).trans (f12 j (by omega))
  have hacts : ∀ j, 10 ≤ j → j < 17 → h7.1 j = h16.1 j := fun j q1 q2 => (g24 j (by omega) (by omega)).trans (f18 j (by omega))
  have hsea : ∀ j, 17 ≤ j → j < 26 → h7.1 j = h22.1 j := fun j q1 q2 => (g30 j (by omega) (by omega)).trans (f24 j (by omega))
  have hb1 : ∀ j, 26 ≤ j → j < 29 → h7.1 j = h28.1 j := fun j q1 q2 => (g36 j (by omega) (by omega)).trans (f30 j (by omega))
  have hb2 : ∀ j, 29 ≤ j → j < 32 → h7.1 j = h34.1 j := fun j q1 q2 => (g40 j (by omega) (by omega)).trans (f36 j (by omega))
  have h32' : h7.1 32 = .inr (.inl (3, 2, fun _ => none)) := by
    rw [g44 32 (by omega) (by omega), f40 32 (by omega), f38, if_pos rfl]
  have h33' : h7.1 33 = .inl (0, 17, fun _ => 0) := by
    rw [s7 33 (by omega) (by omega), f44 33 (by omega), f42, if_pos rfl]
  have h3' : h7.1 3 = oB 10 (cF 0 0) := by
    rw [z3 3 (by omega), t44]
    rfl
  refine ⟨h44, h46, h7, ?_, e46, n44.1, (ini_M 34 h46).trans e7, ⟨?_, ⟨z1, ?_⟩, ?_, ?_, ?_⟩, ?_, n7.1, n7.2⟩
  · unfold f_C_init
    rw [bd, e2, bd, n1.1, e4, bd, e6, bd, e8, bd, n6.1, ini_T, e10, bd, e12, bd, e14, bd, n12.1, ini_A, e16, bd, e18, bd, e20, bd, n18.1, ini_S, e22, bd, e24, bd, e26, bd, n24.1, e28, bd, e30, bd, e32, bd, n30.1, e34, bd, e36, bd, e38, bd, n36.1, e40, bd, e42, bd, n40.1, e44]
    rfl
  · exact ⟨(g6 0 (by omega) (by omega)).trans (b1 0 (by omega)), (g6 1 (by omega) (by omega)).trans (b1 1 (by omega))⟩
  · intro a q1 q2
    rcases (show a = 1 ∨ a = 2 ∨ a = 3 ∨ a = 4 ∨ a = 5 ∨ a = 6 ∨ a = 7 ∨ a = 8 ∨ a = 9 ∨ a = 10 ∨ a = 11 ∨ a = 12 ∨ a = 13 by omega) with rfl | rfl | rfl | rfl | rfl | rfl | rfl | rfl | rfl | rfl | rfl | rfl | rfl
    · exact z2 0 (1, 0, 120) rfl
    · exact z2 1 (10, 0, 8) rfl
    · exact z2 2 (11, 0, 8) rfl
    · exact z2 3 (12, 0, 320) rfl
    · exact z2 4 (14, 0, 42) rfl
    · exact z2 5 (15, 0, 42) rfl
    · exact z2 6 (16, 0, 42) rfl
    · exact z2 7 (17, 0, 1008) rfl
    · exact z2 8 (19, 0, 84) rfl
    · exact z2 9 (20, 1, 2) rfl
    · exact z2 10 (21, 0, 16) rfl
    · exact z2 11 (23, 0, 576) rfl
    · exact z2 12 (24, 0, 2880) rfl
  · -- the class
    have gs : ∀ h : MH, Gs h (fun _ => none) := fun h n _ => Or.inl rfl
    have bs : ∀ a, h7.1 a = bO (fun _ => 0) a → h7.1 (a + 1) = aZ 24 (fun _ => 0) → h7.1 (a + 2) = rQ (fun _ => none) → Bx h7 a (fun _ => 0) := fun a k1 k2 k3 => ⟨⟨k1, k2, fun _ => none, k3, fun i hi => by
      have hi : (i : Int) < 0 := hi
      omega⟩, Tb_new k1 k2 k3⟩
    refine ⟨h3', ⟨fun j => if j < 8 then -1 else 0, fun _ => 0, fun _ => 0, ?_, ?_, ?_, ?_, ?_⟩, ⟨0, 0, 0, ?_, ?_⟩, ⟨fun _ _ => 0, 0, ?_, ?_, by omega, by show (0 : Int) ≤ 0 ∧ (0 : Int) ≤ 24; omega, fun j hj => ?_⟩, ⟨fun _ _ => 0, ?_, ?_⟩, bs 26 ?_ ?_ ?_, (bs 29 ?_ ?_ ?_).2, ⟨fun _ => none, h32', fun k _ => Or.inl ⟨rfl, rfl⟩, fun p q1 _ => by cases q1⟩, ⟨fun _ => 0, h33', rfl, by show (0 : Int) ≤ 0 ∧ (0 : Int) ≤ 16; omega, fun k hk => rfl⟩⟩
    · rw [hrow 4 (by omega) (by omega), f4 4 (by omega), r1]
      rfl
    · rw [hrow 5 (by omega) (by omega), f4 5 (by omega)]
      exact r2 0 (0, 0, 320) rfl
    · rw [hrow 6 (by omega) (by omega)]
      exact c4
    · rw [hrow 7 (by omega) (by omega), f4 7 (by omega)]
      exact r2 2 (2, 0, 8) rfl
    · intro r hr8
      dsimp only
      rw [if_pos hr8]
      refine ⟨by omega, by omega, by omega, by omega, fun z => absurd rfl z, fun _ => rfl⟩
    · rw [htape 8 (by omega) (by omega), u1]
      rfl
    · rw [htape 9 (by omega) (by omega)]
      exact u2 0 (0, 0, 120) rfl
    · rw [hacts 10 (by omega) (by omega), v1]
      rfl
    · intro a ha
      rw [hacts (11 + a) (by omega) (by omega)]
      rcases (show a = 0 ∨ a = 1 ∨ a = 2 ∨ a = 3 ∨ a = 4 ∨ a = 5 by omega) with rfl | rfl | rfl | rfl | rfl | rfl
      · exact v2 0 (0, 0, 24) rfl
      · exact v2 1 (1, 0, 24) rfl
      · exact v2 2 (2, 0, 24) rfl
      · exact v2 3 (3, 0, 24) rfl
      · exact v2 4 (4, 0, 24) rfl
      · exact v2 5 (5, 0, 24) rfl
    · have hj : (j : Int) < 0 := hj
      omega
    · rw [hsea 17 (by omega) (by omega), w1]
      rfl
    · intro a q1 q2
      rw [hsea (17 + a) (by omega) (by omega)]
      rcases (show a = 1 ∨ a = 2 ∨ a = 3 ∨ a = 4 ∨ a = 5 ∨ a = 6 ∨ a = 7 ∨ a = 8 by omega) with rfl | rfl | rfl | rfl | rfl | rfl | rfl | rfl
      · exact w2 0 (0, 0, 192) rfl
      · exact w2 1 (1, 0, 576) rfl
      · exact w2 2 (2, 0, 576) rfl
      · exact w2 3 (3, 0, 576) rfl
      · exact w2 4 (4, 0, 576) rfl
      · exact w2 5 (5, 0, 21) rfl
      · exact w2 6 (6, 0, 10) rfl
      · exact w2 7 (7, 0, 10) rfl
    · rw [hb1 26 (by omega) (by omega)]; exact x1
    · rw [hb1 (26 + 1) (by omega) (by omega)]; exact x2
    · rw [hb1 (26 + 2) (by omega) (by omega)]; exact x3
    · rw [hb2 29 (by omega) (by omega)]; exact y1
    · rw [hb2 (29 + 1) (by omega) (by omega)]; exact y2
    · rw [hb2 (29 + 2) (by omega) (by omega)]; exact y3
  · refine ⟨by omega, fun p hp => ?_⟩
    rw [g6 p (by omega) (by omega), b1 p (by omega)]
    match p, hp with
    | p + 3, _ => rfl
    | 0, hp => omega
    | 1, hp => omega
    | 2, hp => omega
  · refine ⟨⟨W_zero, fun k _ => rfl, (show (0 : Int) ≤ 999 by decide), (show onN (0 : Int).toNat ≤ 4 by decide)⟩, Or.inl ⟨rfl, fun q _ => rfl⟩, (show (0 : Int) ≤ 0 ∧ (0 : Int) ≤ 120 by omega), fun k hk => absurd (show (k : Int) < 0 from hk) (by omega), fun k _ => rfl, fun k _ => rfl⟩
  · exact (g6 2 (by omega) (by omega)).trans (b1 2 (by omega))
/-- the pure half: every script's run answers 1 -/
theorem mj_pure {L : Nat} (xs : Nat → Int32) (hL : L ≤ 3072) : ∃ (F : Nat) (r : Int32 × MH), f_L_law F (some 2) (mj_init L xs) = some r ∧ r.1 = 1 ∧ r.2.2.1 ≤ 600003 ∧ r.2.2.2 ≤ 7302250 := by
  obtain ⟨h3, h5, h7, e3, e5, n3, e7, X, H, n7, s7⟩ := law_start (L := L) (xs := xs)
  obtain ⟨r, e, r1, r2, r3⟩ := law_loop hL 600 0 1000000000000 h7 _ (by omega) (by omega) (by omega) X H (by omega) (by omega)
  refine ⟨1000000000000, r, ?_, r1, r2, r3⟩
  unfold f_L_law
  rw [show newO (mj_init L xs) 10 = some (newo (mj_init L xs) 10 (o_of 10)) from rfl, bd, show (mj_init L xs).2.1 = 3 from rfl, e3, bd, e5, bd, n3, e7, bd]
  exact e
