/-! ===== acts are kept ===== -/
def AP (h : MH) (A : Nat → Nat → Int) (nx n : Int) : Prop := h.1 10 = oB 0 (acF nx n) ∧ ∀ a, a < 6 → h.1 (11 + a) = aZ 24 (A a)
section
variable {h : MH} {A : Nat → Nat → Int} {nx n : Int}
theorem ap_g (X : AP h A nx n) : gfr h (some 10) [0] 0 = some (some 11) ∧ gfr h (some 10) [0] 1 = some (some 12) ∧ gfr h (some 10) [0] 2 = some (some 13) ∧ gfr h (some 10) [0] 3 = some (some 14) ∧ gfr h (some 10) [0] 4 = some (some 15) ∧ gfr h (some 10) [0] 5 = some (some 16) ∧ gfi h (some 10) [0] 6 = some (zI nx) ∧ gfi h (some 10) [0] 7 = some (zI n) :=
  ⟨gfr_o X.1 rfl rfl, gfr_o X.1 rfl rfl, gfr_o X.1 rfl rfl, gfr_o X.1 rfl rfl, gfr_o X.1 rfl rfl, gfr_o X.1 rfl rfl, gfi_o X.1 rfl rfl, gfi_o X.1 rfl rfl⟩
theorem ap_put (X : AP h A nx n) (h1 : 0 ≤ nx ∧ nx < 24) {c : Nat} (a : Nat) (hc : c = 11 + a) (ha : a < 6) (x : Int) : ∃ h', f_C_put (some c) (zI nx) (zI x) h = some h' ∧ Ch 10 16 h h' ∧ AP h' (upR A a (upI (A a) nx.toNat x)) nx n := by
  subst hc
  refine ⟨_, s_put (X.2 a ha) (by omega) h1.1 (by omega) (by omega), Ch_up h _ (by omega) (by omega), ?_, fun b hb => ?_⟩
  · rw [up_get, if_neg (by omega)]; exact X.1
  · rw [up_get]
    unfold upR
    by_cases e : b = a
    · rw [if_pos (by omega), if_pos e]
    · rw [if_neg (by omega), if_neg e]; exact X.2 b hb
theorem ap_pf (X : AP h A nx n) (x y : Int) : (∃ h', pfv h (some 10) [0] 6 (.int (zI x)) = some h' ∧ Ch 10 16 h h' ∧ AP h' A x n) ∧ ∃ h', pfv h (some 10) [0] 7 (.int (zI y)) = some h' ∧ Ch 10 16 h h' ∧ AP h' A nx y := by
  refine ⟨⟨mj_up h 10 (oB 0 (acF x n)), ?_, Ch_up h _ (by omega) (by omega), by rw [up_get, if_pos rfl], fun b hb => by rw [up_get, if_neg (by omega)]; exact X.2 b hb⟩, ⟨mj_up h 10 (oB 0 (acF nx y)), ?_, Ch_up h _ (by omega) (by omega), by rw [up_get, if_pos rfl], fun b hb => by rw [up_get, if_neg (by omega)]; exact X.2 b hb⟩⟩
  · rw [pfv_o X.1 (by show 6 < 8; omega) rfl]; rfl
  · rw [pfv_o X.1 (by show 7 < 8; omega) rfl]; rfl
def keepA (A : Nat → Nat → Int) (nx : Int) (v : Nat → Int) (L : Int) : Nat → Nat → Int := fun a => match a with
  | 0 => upI (A 0) nx.toNat (v 14)
  | 1 => upI (A 1) nx.toNat (v 15)
  | 2 => upI (A 2) nx.toNat (v 16)
  | 3 => upI (A 3) nx.toNat (v 17)
  | 4 => upI (A 4) nx.toNat (v 13)
  | 5 => upI (A 5) nx.toNat L
  | a => A a
theorem c_keep (X : AP h A nx n) (h1 : 0 ≤ nx ∧ nx < 24) (hn : 0 ≤ n ∧ n ≤ 24) {v : Nat → Int} (B : h.1 26 = bO v 26) (L : Int) : ∃ h', f_A_keep (some 10) (some 26) (zI L) h = some h' ∧ Ch 10 16 h h' ∧ AP h' (keepA A nx v L) ((nx + 1) % 24) (min 24 (n + 1)) := by
  have Bf : ∀ h', Ch 10 16 h h' → h'.1 26 = bO v 26 := fun h' c => (c.2 26 (by omega)).trans B
  unfold f_A_keep
  obtain ⟨h2, e1, c1, X1⟩ := ap_put X h1 0 (c := 11) rfl (by omega) (v 14)
  obtain ⟨h3, e2, c2, X2⟩ := ap_put X1 h1 1 (c := 12) rfl (by omega) (v 15)
  obtain ⟨h4, e3, c3, X3⟩ := ap_put X2 h1 2 (c := 13) rfl (by omega) (v 16)
  obtain ⟨h5, e4, c4, X4⟩ := ap_put X3 h1 3 (c := 14) rfl (by omega) (v 17)
  obtain ⟨h6, e5, c5, X5⟩ := ap_put X4 h1 4 (c := 15) rfl (by omega) (v 13)
  obtain ⟨h7, e6, c6, X6⟩ := ap_put X5 h1 5 (c := 16) rfl (by omega) L
  obtain ⟨⟨h8, e7, c7, X7⟩, -⟩ := ap_pf X6 ((nx + 1) % 24) 0
  obtain ⟨-, ⟨h9, e8, c8, X8⟩⟩ := ap_pf X7 0 (min 24 (n + 1))
  have B1 := Bf h2 c1
  have B2 := Bf h3 (c1.tr c2)
  have B3 := Bf h4 (c1.tr (c2.tr c3))
  have B4 := Bf h5 (c1.tr (c2.tr (c3.tr c4)))
  rw [(ap_g X).1, bd, (ap_g X).2.2.2.2.2.2.1, bd, (b_g B).2.2.2.1, bd, e1, bd]
  rw [(ap_g X1).2.1, bd, (ap_g X1).2.2.2.2.2.2.1, bd, (b_g B1).2.2.2.2.1, bd, e2, bd]
  rw [(ap_g X2).2.2.1, bd, (ap_g X2).2.2.2.2.2.2.1, bd, (b_g B2).2.2.2.2.2.1, bd, e3, bd]
  rw [(ap_g X3).2.2.2.1, bd, (ap_g X3).2.2.2.2.2.2.1, bd, (b_g B3).2.2.2.2.2.2.1, bd, e4, bd]
  rw [(ap_g X4).2.2.2.2.1, bd, (ap_g X4).2.2.2.2.2.2.1, bd, (b_g B4).2.2.2.2.2.2.2.1, bd, e5, bd]
  rw [(ap_g X5).2.2.2.2.2.1, bd, (ap_g X5).2.2.2.2.2.2.1, bd, e6, bd]
  rw [(ap_g X6).2.2.2.2.2.2.1, bd, l1, zI_add, l24, zI_rem (by omega) (by omega) (by omega) (by omega), e7, bd, (ap_g X7).2.2.2.2.2.2.2, bd, zI_add, zI_min (by omega) (by omega) (by omega) (by omega), e8]
  refine ⟨h9, rfl, c1.tr (c2.tr (c3.tr (c4.tr (c5.tr (c6.tr (c7.tr c8)))))), X8.1, fun a ha => ?_⟩
  rw [X8.2 a ha]
  rcases (show a = 0 ∨ a = 1 ∨ a = 2 ∨ a = 3 ∨ a = 4 ∨ a = 5 by omega) with rfl | rfl | rfl | rfl | rfl | rfl <;> rfl
/-- the reference's acts with one more -/
def PushE (ac ac' : Nat → Int) (n : Int) (v : Nat → Int) : Prop := (n < 24 → (∀ j : Nat, (j : Int) < n → aE ac' j = aE ac j) ∧ aE ac' n.toNat = v) ∧ (n = 24 → (∀ j : Nat, j < 23 → aE ac' j = aE ac (j + 1)) ∧ aE ac' 23 = v)
theorem AR_push {v v2 ac ac' : Nat → Int} {L : Int} (X : AR A nx v ac n) (h1 : 0 ≤ nx ∧ nx < 24) (hn : 0 ≤ n ∧ n ≤ 24) (hP : PushE ac ac' n v) (W : Wv v) (K : Wk v) (h12 : ∀ k : Nat, k ≤ 12 → v k = v2 k) (hd : ∀ c : Nat, c < 24 → v (18 + c) = v2 (18 + c) + lb L c) : AR (keepA A nx v L) ((nx + 1) % 24) v2 ac' (min 24 (n + 1)) := by
  -- an entry that was there
  have old : ∀ (j j0 : Nat) (s : Nat), (j0 : Int) < n → aE ac' j = aE ac j0 → s = ((nx + 24 - n + j0) % 24).toNat → s ≠ nx.toNat → (∀ c : Nat, c < 24 → (if (j : Int) + 1 = min 24 (n + 1) then v2 (18 + c) else aE ac' (j + 1) (18 + c)) = (if (j0 : Int) + 1 = n then v (18 + c) else aE ac (j0 + 1) (18 + c))) →
      (Wv (aE ac' j) ∧ Wk (aE ac' j)) ∧ (∀ k : Nat, k ≤ 12 → aE ac' j k = v2 k) ∧ (keepA A nx v L 0 s = aE ac' j 14 ∧ keepA A nx v L 1 s = aE ac' j 15 ∧ keepA A nx v L 2 s = aE ac' j 16 ∧ keepA A nx v L 3 s = aE ac' j 17 ∧ keepA A nx v L 4 s = aE ac' j 13) ∧ ∀ c : Nat, c < 24 → aE ac' j (18 + c) = (if (j : Int) + 1 = min 24 (n + 1) then v2 (18 + c) else aE ac' (j + 1) (18 + c)) + lb (keepA A nx v L 5 s) c := by
    intro j j0 s hj he hs hne hnext
    obtain ⟨x1, x2, ⟨x3, x4, x5, x6, x7⟩, x8⟩ := X j0 hj
    rw [he]
    refine ⟨x1, fun k hk => (x2 k hk).trans (h12 k hk), ⟨?_, ?_, ?_, ?_, ?_⟩, fun c hc => ?_⟩
    · show upI (A 0) nx.toNat (v 14) s = _
      rw [upI_n _ _ hne, hs]; exact x3
    · show upI (A 1) nx.toNat (v 15) s = _
      rw [upI_n _ _ hne, hs]; exact x4
    · show upI (A 2) nx.toNat (v 16) s = _
      rw [upI_n _ _ hne, hs]; exact x5
    · show upI (A 3) nx.toNat (v 17) s = _
      rw [upI_n _ _ hne, hs]; exact x6
    · show upI (A 4) nx.toNat (v 13) s = _
      rw [upI_n _ _ hne, hs]; exact x7
    · rw [hnext c hc]
      show aE ac j0 (18 + c) = _ + lb (upI (A 5) nx.toNat L s) c
      rw [upI_n _ _ hne, hs]; exact x8 c hc
  have new : ∀ (j s : Nat), aE ac' j = v → s = nx.toNat → (j : Int) + 1 = min 24 (n + 1) →
      (Wv (aE ac' j) ∧ Wk (aE ac' j)) ∧ (∀ k : Nat, k ≤ 12 → aE ac' j k = v2 k) ∧ (keepA A nx v L 0 s = aE ac' j 14 ∧ keepA A nx v L 1 s = aE ac' j 15 ∧ keepA A nx v L 2 s = aE ac' j 16 ∧ keepA A nx v L 3 s = aE ac' j 17 ∧ keepA A nx v L 4 s = aE ac' j 13) ∧ ∀ c : Nat, c < 24 → aE ac' j (18 + c) = (if (j : Int) + 1 = min 24 (n + 1) then v2 (18 + c) else aE ac' (j + 1) (18 + c)) + lb (keepA A nx v L 5 s) c := by
    intro j s he hs hlast
    rw [he, hs]
    refine ⟨⟨W, K⟩, h12, ⟨upI_s _ _ _, upI_s _ _ _, upI_s _ _ _, upI_s _ _ _, upI_s _ _ _⟩, fun c hc => ?_⟩
    rw [if_pos hlast]
    show _ = _ + lb (upI (A 5) nx.toNat L nx.toNat) c
    rw [upI_s]; exact hd c hc
  intro j hj
  by_cases c24 : n = 24
  · obtain ⟨p1, p2⟩ := hP.2 c24
    by_cases cj : j = 23
    · exact new j _ (by rw [cj]; exact p2) (by omega) (by omega)
    · refine old j (j + 1) _ (by omega) (p1 j (by omega)) (by omega) (by omega) (fun c hc => ?_)
      rw [if_neg (by omega)]
      by_cases cj2 : j = 22
      · rw [if_pos (by omega), show j + 1 = 23 by omega, p2]
      · rw [if_neg (by omega), p1 (j + 1) (by omega)]
  · obtain ⟨p1, p2⟩ := hP.1 (by omega)
    by_cases cj : (j : Int) = n
    · exact new j _ (by rw [show j = n.toNat by omega]; exact p2) (by omega) (by omega)
    · refine old j j _ (by omega) (p1 j (by omega)) (by omega) (by omega) (fun c hc => ?_)
      rw [if_neg (by omega)]
      by_cases cj2 : (j : Int) + 1 = n
      · rw [if_pos cj2, show j + 1 = n.toNat by omega, p2]
      · rw [if_neg cj2, p1 (j + 1) (by omega)]
end
section
variable {F : Nat}
theorem m_notes47 {n : Nat} (hn : n < 24) : ∀ (d k fu : Nat) (g : MH) (Q : Nat → Nat → Int), k + d = 42 → d < fu → Mr g Q → Q 0 18 = n → ∃ g' f, b_M_notes_47 F fu (some 34) (zI (k : Int)) g = some g' ∧ Ch 34 47 g g' ∧ Mr g' (upR (upR Q 8 f) 0 (upI (Q 0) 18 (n + 1))) ∧ ∀ j, f j = if 42 * n + k ≤ j ∧ j < 42 * n + 42 then Q 6 (j - 42 * n) else Q 8 j := by
  intro d
  induction d with
  | zero =>
    intro k fu g Q hk hf M hQ
    obtain ⟨fu, rfl⟩ : ∃ q, fu = q + 1 := ⟨fu - 1, by omega⟩
    obtain ⟨g1, e1, c1, M1⟩ := mr_pf M 18 rfl ((n : Int) + 1)
    refine ⟨g1, Q 8, ?_, c1, M1.cg (fun j _ => ?_), fun j => by rw [if_neg (by omega)]⟩
    · unfold b_M_notes_47
      simp (disch := omega) only [l42, zI_le]
      rw [if_pos (by omega), mf18 M, bd, hQ, l1, zI_add, e1]
      rfl
    · have : upR Q 8 (Q 8) = Q := by
        funext i
        unfold upR
        by_cases c : i = 8
        · rw [if_pos c, c]
        · rw [if_neg c]
      rw [this]
  | succ d ih =>
    intro k fu g Q hk hf M hQ
    obtain ⟨fu, rfl⟩ : ∃ q, fu = q + 1 := ⟨fu - 1, by omega⟩
    have A6 : g.1 40 = aZ 42 (Q 6) := M.2 6 (by omega) (by omega)
    obtain ⟨g1, e1, c1, M1⟩ := mr_st M 8 (c := 42) (k := 42 * (n : Int) + k) rfl (by omega) (by omega) (Q 6 k) (by omega) (show 42 * (n : Int) + k < (1008 : Nat) by omega)
    have e1' : ast g (some 42) 0 (zI (42 * (n : Int) + k)) (zI (Q 6 k)) = some g1 := e1
    obtain ⟨g2, f, e2, c2, M2, hf2⟩ := ih (k + 1) fu g1 _ (by omega) (by omega) M1 hQ
    refine ⟨g2, f, ?_, c1.tr c2, M2.cg (fun j _ => ?_), fun j => ?_⟩
    · unfold b_M_notes_47
      simp (disch := omega) only [l42, zI_le]
      rw [if_neg (by omega), mg17 M, bd, mf18 M, bd, mg15 M, bd, aldN A6 (k := k) (by omega) (by omega), bd, hQ, zI_mul, zI_add, e1', bd, l1, zI_add]
      exact e2
    · have : upR (upR (upR Q 8 (upI (Q 8) (42 * (n : Int) + k).toNat (Q 6 k))) 8 f) 0 (upI (upR Q 8 (upI (Q 8) (42 * (n : Int) + k).toNat (Q 6 k)) 0) 18 (n + 1)) = upR (upR Q 8 f) 0 (upI (Q 0) 18 (n + 1)) := by
        funext i
        unfold upR
        by_cases c0 : i = 0
        · rw [if_pos c0, if_pos c0, if_neg (by decide)]
        · rw [if_neg c0, if_neg c0]
          by_cases c : i = 8
          · rw [if_pos c, if_pos c]
          · rw [if_neg c, if_neg c, if_neg c]
      rw [this]
    · rw [hf2 j]
      show (if _ then Q 6 (j - 42 * n) else upI (Q 8) (42 * (n : Int) + k).toNat (Q 6 k) j) = _
      rw [show (42 * (n : Int) + k).toNat = 42 * n + k by omega]
      by_cases c : j = 42 * n + k
      · rw [if_neg (by omega), if_pos (by omega), c, upI_s, show 42 * n + k - 42 * n = k by omega]
      · rw [upI_n _ _ c]
        by_cases c2 : 42 * n + (k + 1) ≤ j ∧ j < 42 * n + 42
        · rw [if_pos c2, if_pos (by omega)]
        · rw [if_neg c2, if_neg (by omega)]
theorem m_notes11 (hF : 1000 ≤ F) : ∀ (d k fu : Nat) (g : MH) (Q : Nat → Nat → Int), k + d = 966 → d < fu → Mr g Q → ∃ g' f, b_M_notes_11 F fu (some 34) (zI (k : Int)) g = some g' ∧ Ch 34 47 g g' ∧ Mr g' (upR (upR Q 8 f) 0 (upI (Q 0) 18 24)) ∧ ∀ j, j < 1008 → f j = if 966 ≤ j then Q 6 (j - 966) else if k ≤ j then Q 8 (j + 42) else Q 8 j := by
  intro d
  induction d with
  | zero =>
    intro k fu g Q hk hf M
    obtain ⟨fu, rfl⟩ : ∃ q, fu = q + 1 := ⟨fu - 1, by omega⟩
    obtain ⟨g1, e1, c1, M1⟩ := mr_pf M 18 rfl 23
    obtain ⟨g2, f, e2, c2, M2, hf2⟩ := m_notes47 (F := F) (n := 23) (by omega) 42 0 F g1 _ rfl (by omega) M1 rfl
    refine ⟨g2, f, ?_, c1.tr c2, M2.cg (fun j _ => ?_), fun j hj => ?_⟩
    · unfold b_M_notes_11 b_M_notes_45
      simp (disch := omega) only [l966, zI_le]
      rw [if_pos (by omega), show (23 : Int32) = zI 23 from rfl, e1, bd, l0]
      exact e2
    · unfold upR
      by_cases c0 : j = 0
      · rw [if_pos c0, if_pos c0, if_pos rfl]
        funext i
        unfold upI
        by_cases c : i = 18
        · rw [if_pos c, if_pos c]; rfl
        · rw [if_neg c, if_neg c, if_neg c]
      · rw [if_neg c0, if_neg c0, if_neg c0]
    · rw [hf2 j]
      by_cases c : 966 ≤ j
      · rw [if_pos (by omega), if_pos c]
        rfl
      · rw [if_neg (by omega), if_neg c, if_neg (by omega)]
        rfl
  | succ d ih =>
    intro k fu g Q hk hf M
    obtain ⟨fu, rfl⟩ : ∃ q, fu = q + 1 := ⟨fu - 1, by omega⟩
    have A8 : g.1 42 = aZ 1008 (Q 8) := M.2 8 (by omega) (by omega)
    obtain ⟨g1, e1, c1, M1⟩ := mr_st M 8 (c := 42) (k := (k : Int)) rfl (by omega) (by omega) (Q 8 (k + 42)) (by omega) (show (k : Int) < (1008 : Nat) by omega)
    have e1' : ast g (some 42) 0 (zI (k : Int)) (zI (Q 8 (k + 42))) = some g1 := e1
    obtain ⟨g2, f, e2, c2, M2, hf2⟩ := ih (k + 1) fu g1 _ (by omega) (by omega) M1
    refine ⟨g2, f, ?_, c1.tr c2, M2.cg (fun j _ => ?_), fun j hj => ?_⟩
    · unfold b_M_notes_11
      simp (disch := omega) only [l966, zI_le]
      rw [if_neg (by omega), mg17 M, bd, bd, l42, zI_add, show (k : Int) + 42 = ((k + 42 : Nat) : Int) by omega, aldN A8 (k := k + 42) (by omega) (by omega), bd, e1', bd, l1, zI_add]
      exact e2
    · unfold upR
      by_cases c0 : j = 0
      · rw [if_pos c0, if_pos c0, if_neg (by decide)]
      · rw [if_neg c0, if_neg c0]
        by_cases c : j = 8
        · rw [if_pos c, if_pos c]
        · rw [if_neg c, if_neg c, if_neg c]
    · rw [hf2 j hj]
      show (if 966 ≤ j then Q 6 (j - 966) else if k + 1 ≤ j then upI (Q 8) ((k : Int)).toNat (Q 8 (k + 42)) (j + 42) else upI (Q 8) ((k : Int)).toNat (Q 8 (k + 42)) j) = _
      rw [Int.toNat_natCast]
      by_cases c : 966 ≤ j
      · rw [if_pos c, if_pos c]
      · rw [if_neg c, if_neg c]
        by_cases c1 : k + 1 ≤ j
        · rw [if_pos c1, if_pos (by omega), upI_n _ _ (by omega)]
        · rw [if_neg c1]
          by_cases c2 : j = k
          · rw [if_pos (by omega), c2, upI_s]
          · rw [if_neg (by omega), upI_n _ _ c2]
theorem m_notes (hF : 10000 ≤ F) {g : MH} {Q : Nat → Nat → Int} (M : Mr g Q) (hn : 0 ≤ Q 0 18 ∧ Q 0 18 ≤ 24) (Z : Wz (Q 6)) : ∃ g' f, f_M_notes F (some 34) g = some g' ∧ Ch 34 47 g g' ∧ Mr g' (upR (upR Q 8 f) 0 (upI (Q 0) 18 (min 24 (Q 0 18 + 1)))) ∧ PushE (Q 8) f (Q 0 18) (Q 6) := by
  have x : zI (Q 0 18) = (24 : Int32) ↔ Q 0 18 = 24 := zI_eq (b := 24) (by omega) (by omega) (by omega) (by omega)
  unfold f_M_notes
  rw [mf18 M, bd]
  simp only [x]
  by_cases c : Q 0 18 = 24
  · rw [if_pos c]
    obtain ⟨g2, f, e2, c2, M2, hf2⟩ := m_notes11 (F := F) (by omega) 966 0 F g Q rfl (by omega) M
    refine ⟨g2, f, e2, c2, by rw [show min 24 (Q 0 18 + 1) = 24 by omega]; exact M2, fun z => by omega, fun _ => ⟨fun j hj => ?_, ?_⟩⟩
    · funext k
      unfold aE
      by_cases ck : k < 42
      · rw [if_pos ck, if_pos ck, hf2 _ (by omega), if_neg (by omega), if_pos (by omega), show 42 * j + k + 42 = 42 * (j + 1) + k by omega]
      · rw [if_neg ck, if_neg ck]
    · funext k
      unfold aE
      by_cases ck : k < 42
      · rw [if_pos ck, hf2 _ (by omega), if_pos (by omega), show 42 * 23 + k - 966 = k by omega]
      · rw [if_neg ck, Z k (by omega)]
  · rw [if_neg c]
    obtain ⟨g2, f, e2, c2, M2, hf2⟩ := m_notes47 (F := F) (n := (Q 0 18).toNat) (by omega) 42 0 F g Q rfl (by omega) M (by omega)
    unfold b_M_notes_45
    rw [l0]
    refine ⟨g2, f, e2, c2, by rw [show min 24 (Q 0 18 + 1) = (((Q 0 18).toNat : Int) + 1) by omega]; exact M2, fun _ => ⟨fun j hj => ?_, ?_⟩, fun z => absurd z c⟩
    · funext k
      unfold aE
      by_cases ck : k < 42
      · rw [if_pos ck, if_pos ck, hf2, if_neg (by omega)]
      · rw [if_neg ck, if_neg ck]
    · funext k
      unfold aE
      by_cases ck : k < 42
      · rw [if_pos ck, hf2, if_pos (by omega), show 42 * (Q 0 18).toNat + k - 42 * (Q 0 18).toNat = k by omega]
      · rw [if_neg ck, Z k (by omega)]
end
