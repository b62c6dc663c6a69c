/-! ===== the law's loop ===== -/
theorem on_pf {h1 : MH} {v : Value} {β : Type} {k : MH → Option β} {y : β} (e : Option.bind (pfv h1 (some 34) [11] 0 v) k = some y) {α : Type} (z : Option α) : onc h1 (some 34) 11 z = z := by
  have hc : cls h1 (some 34) = some 11 := by
    unfold pfv at e
    cases ho : mj_obj h1 (some 34) with
    | none => rw [ho] at e; cases e
    | some q =>
      rw [ho] at e
      obtain ⟨c, fs⟩ := q
      by_cases hh : [11].contains c = true ∧ 0 < fs.length
      · have hc : c = 11 := by
          have := List.contains_iff_mem.mp hh.1
          simpa using this
        unfold cls
        rw [ho]
        show (if fs = [] then none else some c) = some 11
        rw [if_neg (fun z => by rw [z] at hh; exact absurd hh.2 (by decide)), hc]
      · have e2 : (Option.bind (if [11].contains c = true ∧ 0 < fs.length then some (mj_up h1 ((some 34).getD 0) (.inr (.inr (c, fs.set 0 v)))) else none) k) = some y := e
        rw [if_neg hh] at e2
        cases e2
  unfold onc
  rw [if_pos hc]
def Gd (o : Option (Int32 × MH)) : Prop := ∃ r, o = some r ∧ r.1 = 1 ∧ r.2.2.1 ≤ 600003 ∧ r.2.2.2 ≤ 7302250
set_option maxHeartbeats 4000000 in
set_option maxRecDepth 10000 in
theorem law_loop {L : Nat} {xs : Nat → Int32} (hL : L ≤ 3072) : ∀ (d i fu : Nat) (h : MH) (P : Nat → Nat → Int), L < i + 6 * d + 6 → i ≤ L → d < fu → J h P → h.1 2 = .inl (0, L, xs) → h.2.1 ≤ 48 + 20 * i → h.2.2 ≤ 100000 + 100 * i → Gd (b_L_law_18 1000000000000 fu (some 2) (some 3) (some 34) (zI (i : Int)) h) := by
  intro d
  induction d with
  | zero =>
    intro i fu h P hd hi hf X H hn hs
    obtain ⟨fu, rfl⟩ : ∃ q, fu = q + 1 := ⟨fu - 1, by omega⟩
    refine ⟨(1, h), ?_, rfl, by show h.2.1 ≤ 600003; omega, by show h.2.2 ≤ 7302250; omega⟩
    unfold b_L_law_18
    rw [alen_i H (by decide), bd, l6, zI_sub]
    have x1 : zI ((L : Int) - 6) < zI (i : Int) ↔ (L : Int) - 6 < (i : Int) := zI_lt (by omega) (by omega) (by omega) (by omega)
    simp only [x1]
    rw [if_pos (by omega)]
  | succ d ih =>
    intro i fu h P hd hi hf X H hn hs
    obtain ⟨fu, rfl⟩ : ∃ q, fu = q + 1 := ⟨fu - 1, by omega⟩
    have x1 : zI (L : Int) - (6 : Int32) < zI (i : Int) ↔ (L : Int) - 6 < (i : Int) := by
      rw [l6, zI_sub]
      exact zI_lt (by omega) (by omega) (by omega) (by omega)
    unfold b_L_law_18
    rw [alen_i H (by decide), bd]
    simp only [x1]
    by_cases ce : (L : Int) - 6 < (i : Int)
    · rw [if_pos ce]
      exact ⟨(1, h), rfl, rfl, by show h.2.1 ≤ 600003; omega, by show h.2.2 ≤ 7302250; omega⟩
    rw [if_neg ce]
    have ld : ∀ (h : MH), h.1 2 = .inl (0, L, xs) → ∀ (x : Int32) (k : Nat), x = zI ((i + k : Nat) : Int) → i + k < L → ald h (some 2) 0 x = some (xs (i + k)) := by
      intro h H x k hx hk
      rw [hx]
      have := ald_z H (k := ((i + k : Nat) : Int)) (by omega) (by omega) (by omega)
      rw [Int.toNat_natCast] at this
      exact this
    have r0 : ∀ (h : MH), h.1 2 = .inl (0, L, xs) → ald h (some 2) 0 (zI (i : Int)) = some (xs i) := fun h H => ld h H _ 0 rfl (by omega)
    have r1 : ∀ (h : MH), h.1 2 = .inl (0, L, xs) → ald h (some 2) 0 (zI (i : Int) + (1 : Int32)) = some (xs (i + 1)) := fun h H => ld h H _ 1 (by rw [l1, zI_add]; rfl) (by omega)
    have r2 : ∀ (h : MH), h.1 2 = .inl (0, L, xs) → ald h (some 2) 0 (zI (i : Int) + (2 : Int32)) = some (xs (i + 2)) := fun h H => ld h H _ 2 (by rw [l2, zI_add]; rfl) (by omega)
    have r3 : ∀ (h : MH), h.1 2 = .inl (0, L, xs) → ald h (some 2) 0 (zI (i : Int) + (3 : Int32)) = some (xs (i + 3)) := fun h H => ld h H _ 3 (by rw [l3, zI_add]; rfl) (by omega)
    have r4 : ∀ (h : MH), h.1 2 = .inl (0, L, xs) → ald h (some 2) 0 (zI (i : Int) + (4 : Int32)) = some (xs (i + 4)) := fun h H => ld h H _ 4 (by rw [l4, zI_add]; rfl) (by omega)
    have r5 : ∀ (h : MH), h.1 2 = .inl (0, L, xs) → ald h (some 2) 0 (zI (i : Int) + (5 : Int32)) = some (xs (i + 5)) := fun h H => ld h H _ 5 (by rw [l5, zI_add]; rfl) (by omega)
    have on3 : ∀ {α : Type} (x : Option α), onc h (some 3) 10 x = x := fun x => co_on X.2.2.1.1 x
    have nx : ∀ (h1 h2 : MH) (P2 : Nat → Nat → Int), J h2 P2 → Gr h h1 h2 → Gd (b_L_law_1174 1000000000000 (b_L_law_18 1000000000000 fu) (some 2) (some 3) (some 34) (zI (i : Int)) h2) := by
      intro h1 h2 P2 J2 G
      obtain ⟨q1, q2, q3, q4, q5, q6⟩ := G
      have := ih (i + 6) fu h2 P2 (by omega) (by omega) (by omega) J2 (q5.trans H) (by omega) (by omega)
      unfold b_L_law_1174
      rw [l6, zI_add]
      exact this
    rw [r0 h H, bd]
    by_cases c0 : (xs i &&& (63 : Int32)) = (0 : Int32)
    · obtain ⟨x, h1, h2, P2, e1, e2, J2, G⟩ := (s_row (F := 1000000000000) (by omega) (xs (i + 1)) (xs (i + 2)) (xs (i + 3))) h P X
      have H1 := G.2.2.2.2.2.trans H
      rw [if_pos c0, r1 h H, bd, r2 h H, bd, r3 h H, bd, on3, e1, bd, r1 h1 H1, bd, r2 h1 H1, bd, r3 h1 H1, bd, on_pf e2, e2, bd, if_pos rfl]
      exact nx h1 h2 P2 J2 G
    rw [if_neg c0]
    by_cases c1 : (xs i &&& (63 : Int32)) = (1 : Int32)
    · obtain ⟨x, h1, h2, P2, e1, e2, J2, G⟩ := (s_set (xs (i + 1)) (xs (i + 2)) (xs (i + 3))) h P X
      have H1 := G.2.2.2.2.2.trans H
      rw [if_pos c1, r1 h H, bd, r2 h H, bd, r3 h H, bd, on3, e1, bd, r1 h1 H1, bd, r2 h1 H1, bd, r3 h1 H1, bd, on_pf e2, e2, bd, if_pos rfl]
      exact nx h1 h2 P2 J2 G
    rw [if_neg c1]
    by_cases c2 : (xs i &&& (63 : Int32)) = (2 : Int32)
    · obtain ⟨x, h1, h2, P2, e1, e2, J2, G⟩ := (s_copy (F := 1000000000000) (by omega) (xs (i + 1)) (xs (i + 2)) (xs (i + 3)) (xs (i + 4)) (xs (i + 5))) h P X
      have H1 := G.2.2.2.2.2.trans H
      rw [if_pos c2, r1 h H, bd, r2 h H, bd, r3 h H, bd, r4 h H, bd, r5 h H, bd, on3, e1, bd, r1 h1 H1, bd, r2 h1 H1, bd, r3 h1 H1, bd, r4 h1 H1, bd, r5 h1 H1, bd, on_pf e2, e2, bd, if_pos rfl]
      exact nx h1 h2 P2 J2 G
    rw [if_neg c2]
    by_cases c3 : (xs i &&& (63 : Int32)) = (3 : Int32)
    · obtain ⟨x, h1, h2, P2, e1, e2, J2, G⟩ := (s_drop (xs (i + 1))) h P X
      have H1 := G.2.2.2.2.2.trans H
      rw [if_pos c3, r1 h H, bd, on3, e1, bd, r1 h1 H1, bd, on_pf e2, e2, bd, if_pos rfl]
      exact nx h1 h2 P2 J2 G
    rw [if_neg c3]
    by_cases c4 : (xs i &&& (63 : Int32)) = (4 : Int32)
    · obtain ⟨x, h1, h2, P2, e1, e2, J2, G⟩ := (s_feed (xs (i + 1))) h P X
      have H1 := G.2.2.2.2.2.trans H
      rw [if_pos c4, r1 h H, bd, on3, e1, bd, r1 h1 H1, bd, on_pf e2, e2, bd, if_pos rfl]
      exact nx h1 h2 P2 J2 G
    rw [if_neg c4]
    by_cases c5 : (xs i &&& (63 : Int32)) = (5 : Int32)
    · obtain ⟨x, h1, h2, P2, e1, e2, J2, G⟩ := (s_basin (F := 1000000000000) (by omega)) h P X
      have H1 := G.2.2.2.2.2.trans H
      rw [if_pos c5, on3, e1, bd, on_pf e2, e2, bd, if_pos rfl]
      exact nx h1 h2 P2 J2 G
    rw [if_neg c5]
    by_cases c6 : (xs i &&& (63 : Int32)) = (6 : Int32)
    · obtain ⟨x, h2, P2, e1, e2, J2, G⟩ := (s_fault) h P X
      rw [if_pos c6, on3, e1, bd, on_pf e2, e2, bd, if_pos rfl]
      exact nx h h2 P2 J2 G
    rw [if_neg c6]
    by_cases c7 : (xs i &&& (63 : Int32)) = (7 : Int32)
    · obtain ⟨x, h1, h2, P2, e1, e2, J2, G⟩ := (s_undo (F := 1000000000000) (by omega)) h P X
      have H1 := G.2.2.2.2.2.trans H
      rw [if_pos c7, on3, e1, bd, on_pf e2, e2, bd, if_pos rfl]
      exact nx h1 h2 P2 J2 G
    rw [if_neg c7]
    by_cases c8 : (xs i &&& (63 : Int32)) = (8 : Int32)
    · obtain ⟨x, h1, h2, P2, e1, e2, J2, G⟩ := (s_move (F := 1000000000000) (by omega) (xs (i + 1)) (xs (i + 2))) h P X
      have H1 := G.2.2.2.2.2.trans H
      rw [if_pos c8, r1 h H, bd, r2 h H, bd, on3, e1, bd, r1 h1 H1, bd, r2 h1 H1, bd, on_pf e2, e2, bd, if_pos rfl]
      exact nx h1 h2 P2 J2 G
    rw [if_neg c8]
    by_cases c9 : (xs i &&& (63 : Int32)) = (9 : Int32)
    · obtain ⟨x, h1, h2, P2, e1, e2, J2, G⟩ := (s_laden (F := 1000000000000) (by omega) (xs (i + 1))) h P X
      have H1 := G.2.2.2.2.2.trans H
      rw [if_pos c9, r1 h H, bd, on3, e1, bd, r1 h1 H1, bd, on_pf e2, e2, bd, if_pos rfl]
      exact nx h1 h2 P2 J2 G
    rw [if_neg c9]
    by_cases c10 : (xs i &&& (63 : Int32)) = (10 : Int32)
    · obtain ⟨x, h1, h2, P2, e1, e2, J2, G⟩ := (s_moor (F := 1000000000000) (by omega) (xs (i + 1)) (xs (i + 2))) h P X
      have H1 := G.2.2.2.2.2.trans H
      rw [if_pos c10, r1 h H, bd, r2 h H, bd, on3, e1, bd, r1 h1 H1, bd, r2 h1 H1, bd, on_pf e2, e2, bd, if_pos rfl]
      exact nx h1 h2 P2 J2 G
    rw [if_neg c10]
    by_cases c11 : (xs i &&& (63 : Int32)) = (11 : Int32)
    · obtain ⟨x, h1, h2, P2, e1, e2, J2, G⟩ := (s_silt (F := 1000000000000) (by omega)) h P X
      have H1 := G.2.2.2.2.2.trans H
      rw [if_pos c11, on3, e1, bd, on_pf e2, e2, bd, if_pos rfl]
      exact nx h1 h2 P2 J2 G
    rw [if_neg c11]
    by_cases c12 : (xs i &&& (63 : Int32)) = (12 : Int32)
    · obtain ⟨x, h2, P2, e1, e2, J2, G⟩ := (s_boat (F := 1000000000000) (by omega) (xs (i + 1))) h P X
      rw [if_pos c12, r1 h H, bd, on3, e1, bd, bd, on_pf e2, e2, bd, if_pos rfl]
      exact nx h h2 P2 J2 G
    rw [if_neg c12]
    by_cases c13 : (xs i &&& (63 : Int32)) = (13 : Int32)
    · obtain ⟨x, h2, P2, e1, e2, J2, G⟩ := (s_cell (xs (i + 1)) (xs (i + 2))) h P X
      rw [if_pos c13, r1 h H, bd, r2 h H, bd, on3, e1, bd, bd, bd, on_pf e2, e2, bd, if_pos rfl]
      exact nx h h2 P2 J2 G
    rw [if_neg c13]
    by_cases c14 : (xs i &&& (63 : Int32)) = (14 : Int32)
    · obtain ⟨x, h2, P2, e1, e2, J2, G⟩ := (s_hand (xs (i + 1)) (xs (i + 2))) h P X
      rw [if_pos c14, r1 h H, bd, r2 h H, bd, on3, e1, bd, bd, bd, on_pf e2, e2, bd, if_pos rfl]
      exact nx h h2 P2 J2 G
    rw [if_neg c14]
    by_cases c15 : (xs i &&& (63 : Int32)) = (15 : Int32)
    · obtain ⟨x, h1, h2, P2, e1, e2, J2, G⟩ := (s_wayC (F := 1000000000000) (by omega) (xs (i + 1)) (xs (i + 2)) (xs (i + 3))) h P X
      have H1 := G.2.2.2.2.2.trans H
      rw [if_pos c15, r1 h H, bd, r2 h H, bd, r3 h H, bd, on3, e1, bd, r1 h1 H1, bd, r2 h1 H1, bd, r3 h1 H1, bd, on_pf e2, e2, bd, if_pos rfl]
      exact nx h1 h2 P2 J2 G
    rw [if_neg c15]
    by_cases c16 : (xs i &&& (63 : Int32)) = (16 : Int32)
    · obtain ⟨x, h1, h2, P2, e1, e2, J2, G⟩ := (s_turned (F := 1000000000000) (by omega) (xs (i + 1))) h P X
      have H1 := G.2.2.2.2.2.trans H
      rw [if_pos c16, r1 h H, bd, on3, e1, bd, r1 h1 H1, bd, on_pf e2, e2, bd, if_pos rfl]
      exact nx h1 h2 P2 J2 G
    rw [if_neg c16]
    by_cases c17 : (xs i &&& (63 : Int32)) = (17 : Int32)
    · obtain ⟨x, h1, h2, P2, e1, e2, J2, G⟩ := (s_inches (F := 1000000000000) (by omega)) h P X
      have H1 := G.2.2.2.2.2.trans H
      rw [if_pos c17, on3, e1, bd, on_pf e2, e2, bd, if_pos rfl]
      exact nx h1 h2 P2 J2 G
    rw [if_neg c17]
    by_cases c18 : (xs i &&& (63 : Int32)) = (18 : Int32)
    · obtain ⟨x, h1, h2, P2, e1, e2, J2, G⟩ := (s_inTheWay (F := 1000000000000) (by omega) (xs (i + 1))) h P X
      have H1 := G.2.2.2.2.2.trans H
      rw [if_pos c18, r1 h H, bd, on3, e1, bd, r1 h1 H1, bd, on_pf e2, e2, bd, if_pos rfl]
      exact nx h1 h2 P2 J2 G
    rw [if_neg c18]
    by_cases c19 : (xs i &&& (63 : Int32)) = (19 : Int32)
    · obtain ⟨x, h1, h2, P2, e1, e2, J2, G⟩ := (s_dig (F := 1000000000000) (by omega) (xs (i + 1))) h P X
      have H1 := G.2.2.2.2.2.trans H
      rw [if_pos c19, r1 h H, bd, on3, e1, bd, r1 h1 H1, bd, on_pf e2, e2, bd, if_pos rfl]
      exact nx h1 h2 P2 J2 G
    rw [if_neg c19]
    by_cases c20 : (xs i &&& (63 : Int32)) = (20 : Int32)
    · obtain ⟨x, h1, h2, P2, e1, e2, J2, G⟩ := (s_years (F := 1000000000000) (by omega)) h P X
      have H1 := G.2.2.2.2.2.trans H
      rw [if_pos c20, on3, e1, bd, on_pf e2, e2, bd, if_pos rfl]
      exact nx h1 h2 P2 J2 G
    rw [if_neg c20]
    by_cases c21 : (xs i &&& (63 : Int32)) = (21 : Int32)
    · obtain ⟨x, h1, h2, P2, e1, e2, J2, G⟩ := (s_better (F := 1000000000000) (by omega)) h P X
      have H1 := G.2.2.2.2.2.trans H
      rw [if_pos c21, on3, e1, bd, on_pf e2, e2, bd, if_pos rfl]
      exact nx h1 h2 P2 J2 G
    rw [if_neg c21]
    by_cases c22 : (xs i &&& (63 : Int32)) = (22 : Int32)
    · obtain ⟨x, h1, h2, P2, e1, e2, J2, G⟩ := (s_plan (F := 1000000000000) (by omega) (xs (i + 1)) (xs (i + 2)) (xs (i + 3)) (xs (i + 4))) h P X
      have H1 := G.2.2.2.2.2.trans H
      rw [if_pos c22, r1 h H, bd, r2 h H, bd, r3 h H, bd, r4 h H, bd, on3, e1, bd, r1 h1 H1, bd, r2 h1 H1, bd, r3 h1 H1, bd, r4 h1 H1, bd, on_pf e2, e2, bd, if_pos rfl]
      exact nx h1 h2 P2 J2 G
    rw [if_neg c22]
    by_cases c23 : (xs i &&& (63 : Int32)) = (23 : Int32)
    · obtain ⟨x, h1, h2, P2, e1, e2, J2, G⟩ := (s_seen (F := 1000000000000) (by omega) (xs (i + 1)) (xs (i + 2)) (xs (i + 3)) (xs (i + 4))) h P X
      have H1 := G.2.2.2.2.2.trans H
      rw [if_pos c23, r1 h H, bd, r2 h H, bd, r3 h H, bd, r4 h H, bd, on3, e1, bd, r1 h1 H1, bd, r2 h1 H1, bd, r3 h1 H1, bd, r4 h1 H1, bd, on_pf e2, e2, bd, if_pos rfl]
      exact nx h1 h2 P2 J2 G
    rw [if_neg c23]
    by_cases c24 : (xs i &&& (63 : Int32)) = (24 : Int32)
    · obtain ⟨x, h2, P2, e1, e2, J2, G⟩ := (s_gusts (xs (i + 1)) (xs (i + 2)) (xs (i + 3)) (xs (i + 4))) h P X
      rw [if_pos c24, r1 h H, bd, r2 h H, bd, r3 h H, bd, r4 h H, bd, on3, e1, bd, bd, bd, bd, bd, on_pf e2, e2, bd, if_pos ((lg_cmp_eq _ _).mpr rfl)]
      exact nx h h2 P2 J2 G
    rw [if_neg c24]
    by_cases c25 : (xs i &&& (63 : Int32)) = (25 : Int32)
    · obtain ⟨x, h1, h2, P2, e1, e2, J2, G⟩ := (s_reach (F := 1000000000000) (by omega)) h P X
      have H1 := G.2.2.2.2.2.trans H
      rw [if_pos c25, on3, e1, bd, on_pf e2, e2, bd, if_pos rfl]
      exact nx h1 h2 P2 J2 G
    rw [if_neg c25]
    by_cases c26 : (xs i &&& (63 : Int32)) = (26 : Int32)
    · obtain ⟨x, h1, h2, P2, e1, e2, J2, G⟩ := (s_days (F := 1000000000000) (by omega) (xs (i + 1)) (xs (i + 2)) (xs (i + 3))) h P X
      have H1 := G.2.2.2.2.2.trans H
      rw [if_pos c26, r1 h H, bd, r2 h H, bd, r3 h H, bd, on3, e1, bd, r1 h1 H1, bd, r2 h1 H1, bd, r3 h1 H1, bd, on_pf e2, e2, bd, if_pos rfl]
      exact nx h1 h2 P2 J2 G
    rw [if_neg c26]
    by_cases c27 : (xs i &&& (63 : Int32)) = (27 : Int32)
    · obtain ⟨x, h1, h2, P2, e1, e2, J2, G⟩ := (s_image (F := 1000000000000) (by omega) (xs (i + 1))) h P X
      have H1 := G.2.2.2.2.2.trans H
      rw [if_pos c27, r1 h H, bd, on3, e1, bd, r1 h1 H1, bd, on_pf e2, e2, bd, if_pos rfl]
      exact nx h1 h2 P2 J2 G
    rw [if_neg c27]
    by_cases c28 : (xs i &&& (63 : Int32)) = (28 : Int32)
    · obtain ⟨x, h1, h2, P2, e1, e2, J2, G⟩ := (s_restore (F := 1000000000000) (by omega) (xs (i + 1))) h P X
      have H1 := G.2.2.2.2.2.trans H
      rw [if_pos c28, r1 h H, bd, on3, e1, bd, r1 h1 H1, bd, on_pf e2, e2, bd, if_pos rfl]
      exact nx h1 h2 P2 J2 G
    rw [if_neg c28]
    by_cases c29 : (xs i &&& (63 : Int32)) = (29 : Int32)
    · obtain ⟨x, h2, P2, e1, e2, J2, G⟩ := (s_kind (xs (i + 1))) h P X
      rw [if_pos c29, r1 h H, bd, on3, e1, bd, bd, on_pf e2, e2, bd, if_pos rfl]
      exact nx h h2 P2 J2 G
    rw [if_neg c29]
    by_cases c30 : (xs i &&& (63 : Int32)) = (30 : Int32)
    · obtain ⟨x, h1, h2, P2, e1, e2, J2, G⟩ := (s_as (xs (i + 1)) (xs (i + 2))) h P X
      have H1 := G.2.2.2.2.2.trans H
      rw [if_pos c30, r1 h H, bd, r2 h H, bd, on3, e1, bd, r1 h1 H1, bd, r2 h1 H1, bd, on_pf e2, e2, bd, if_pos rfl]
      exact nx h1 h2 P2 J2 G
    rw [if_neg c30]
    by_cases c31 : (xs i &&& (63 : Int32)) = (31 : Int32)
    · obtain ⟨x, h1, h2, P2, e1, e2, J2, G⟩ := (s_ask (xs (i + 1)) (xs (i + 2))) h P X
      have H1 := G.2.2.2.2.2.trans H
      rw [if_pos c31, r1 h H, bd, r2 h H, bd, on3, e1, bd, r1 h1 H1, bd, r2 h1 H1, bd, on_pf e2, e2, bd, if_pos rfl]
      exact nx h1 h2 P2 J2 G
    rw [if_neg c31]
    by_cases c32 : (xs i &&& (63 : Int32)) = (32 : Int32)
    · obtain ⟨x, h2, P2, e1, e2, J2, G⟩ := (s_trace (xs (i + 1))) h P X
      rw [if_pos c32, r1 h H, bd, on3, e1, bd, bd, on_pf e2, e2, bd, if_pos rfl]
      exact nx h h2 P2 J2 G
    rw [if_neg c32]
    by_cases c33 : (xs i &&& (63 : Int32)) = (33 : Int32)
    · obtain ⟨x, h2, P2, e1, e2, J2, G⟩ := (s_count (F := 1000000000000) (by omega) (xs (i + 1))) h P X
      rw [if_pos c33, r1 h H, bd, on3, e1, bd, bd, on_pf e2, e2, bd, if_pos rfl]
      exact nx h h2 P2 J2 G
    rw [if_neg c33]
    by_cases c34 : (xs i &&& (63 : Int32)) = (34 : Int32)
    · obtain ⟨x, h2, P2, e1, e2, J2, G⟩ := (s_status) h P X
      rw [if_pos c34, on3, e1, bd, on_pf e2, e2, bd, if_pos rfl]
      exact nx h h2 P2 J2 G
    rw [if_neg c34]
    exact nx h h P X ⟨Nat.le_refl _, by omega, Nat.le_refl _, by omega, rfl, rfl⟩
