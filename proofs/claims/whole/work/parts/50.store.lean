/-! ===== the class's search: its picture on the heap ===== -/
def szS (a : Nat) : Nat := if a = 1 then 192 else if a ≤ 5 then 576 else if a = 6 then 21 else 10
def sF (f : Nat → Int) : List Value := [.ref 18, .ref 19, .ref 20, .ref 21, .ref 22, .ref 23, .ref 24, .ref 25, .int (zI (f 0)), .int (zI (f 1)), .int (zI (f 2)), .int (zI (f 3)), .int (zI (f 4)), .int (zI (f 5))]
def Sr (h : MH) (R : Nat → Nat → Int) : Prop := h.1 17 = oB 6 (sF (R 0)) ∧ ∀ a, 1 ≤ a → a ≤ 8 → h.1 (17 + a) = aZ (szS a) (R a)
def upR (R : Nat → Nat → Int) (a : Nat) (f : Nat → Int) : Nat → Nat → Int := fun j => if j = a then f else R j
/-- outside the search nothing has changed -/
def Sm (h h' : MH) : Prop := h'.2 = h.2 ∧ ∀ j, (j < 17 ∨ 25 < j) → h'.1 j = h.1 j
theorem Sm_0 (h : MH) : Sm h h := ⟨rfl, fun _ _ => rfl⟩
theorem Sm.tr {h h1 h2 : MH} (a : Sm h h1) (b : Sm h1 h2) : Sm h h2 := ⟨b.1.trans a.1, fun j hj => (b.2 j hj).trans (a.2 j hj)⟩
theorem Sm_up (h : MH) {a : Nat} (c : MC) (h1 : 17 ≤ a) (h2 : a ≤ 25) : Sm h (mj_up h a c) := ⟨rfl, fun j hj => by rw [up_get, if_neg (by omega)]⟩
theorem Sm.es {h h' : MH} (a : Sm h h') (E : Es h) : Es h' := ⟨(a.2 0 (by omega)).trans E.1, (a.2 1 (by omega)).trans E.2⟩
theorem Sr.cg {h : MH} {X Y : Nat → Nat → Int} (S : Sr h X) (h0 : X 0 = Y 0) (h1 : X 1 = Y 1) (h2 : X 2 = Y 2) (h3 : X 3 = Y 3) (h4 : X 4 = Y 4) (h5 : X 5 = Y 5) (h6 : X 6 = Y 6) (h7 : X 7 = Y 7) (h8 : X 8 = Y 8) : Sr h Y := by
  refine ⟨by rw [← h0]; exact S.1, fun a a1 a2 => ?_⟩
  have e : X a = Y a := by
    rcases (show a = 1 ∨ a = 2 ∨ a = 3 ∨ a = 4 ∨ a = 5 ∨ a = 6 ∨ a = 7 ∨ a = 8 by omega) with rfl | rfl | rfl | rfl | rfl | rfl | rfl | rfl <;> assumption
  rw [← e]
  exact S.2 a a1 a2
section
variable {h : MH} {R : Nat → Nat → Int}
theorem sr_on (S : Sr h R) {α : Type} (x : Option α) : onc h (some 17) 6 x = x := onc_o S.1
theorem sg0 (S : Sr h R) : gfr h (some 17) [6] 0 = some (some 18) := gfr_o S.1 rfl rfl
theorem sg1 (S : Sr h R) : gfr h (some 17) [6] 1 = some (some 19) := gfr_o S.1 rfl rfl
theorem sg2 (S : Sr h R) : gfr h (some 17) [6] 2 = some (some 20) := gfr_o S.1 rfl rfl
theorem sg3 (S : Sr h R) : gfr h (some 17) [6] 3 = some (some 21) := gfr_o S.1 rfl rfl
theorem sg4 (S : Sr h R) : gfr h (some 17) [6] 4 = some (some 22) := gfr_o S.1 rfl rfl
theorem sg5 (S : Sr h R) : gfr h (some 17) [6] 5 = some (some 23) := gfr_o S.1 rfl rfl
theorem sg6 (S : Sr h R) : gfr h (some 17) [6] 6 = some (some 24) := gfr_o S.1 rfl rfl
theorem sg7 (S : Sr h R) : gfr h (some 17) [6] 7 = some (some 25) := gfr_o S.1 rfl rfl
theorem sg8 (S : Sr h R) : gfi h (some 17) [6] 8 = some (zI (R 0 0)) := gfi_o S.1 rfl rfl
theorem sg9 (S : Sr h R) : gfi h (some 17) [6] 9 = some (zI (R 0 1)) := gfi_o S.1 rfl rfl
theorem sg10 (S : Sr h R) : gfi h (some 17) [6] 10 = some (zI (R 0 2)) := gfi_o S.1 rfl rfl
theorem sg11 (S : Sr h R) : gfi h (some 17) [6] 11 = some (zI (R 0 3)) := gfi_o S.1 rfl rfl
theorem sg12 (S : Sr h R) : gfi h (some 17) [6] 12 = some (zI (R 0 4)) := gfi_o S.1 rfl rfl
theorem sg13 (S : Sr h R) : gfi h (some 17) [6] 13 = some (zI (R 0 5)) := gfi_o S.1 rfl rfl
theorem szS_r (a : Nat) : szS a < 2147483648 := by unfold szS; (repeat' split) <;> omega
theorem sr_ld (S : Sr h R) {c : Nat} (a : Nat) (hc : c = 17 + a) (h1 : 1 ≤ a) (h2 : a ≤ 8) {k : Int} (k1 : 0 ≤ k) (k2 : k < szS a) : ald h (some c) 0 (zI k) = some (zI (R a k.toNat)) := by
  subst hc
  exact aldZ (S.2 a h1 h2) k1 k2 (szS_r a)
theorem sr_ar (S : Sr h R) {c : Nat} (a : Nat) (hc : c = 17 + a) (h1 : 1 ≤ a) (h2 : a ≤ 8) (f : Nat → Int) : Sm h (mj_up h c (aZ (szS a) f)) ∧ Sr (mj_up h c (aZ (szS a) f)) (upR R a f) := by
  subst hc
  refine ⟨Sm_up h _ (by omega) (by omega), ⟨?_, fun b b1 b2 => ?_⟩⟩
  · rw [up_get, if_neg (by omega)]
    unfold upR
    rw [if_neg (by omega)]
    exact S.1
  · rw [up_get]
    by_cases e : b = a
    · rw [if_pos (by omega), e]
      unfold upR
      rw [if_pos rfl]
    · rw [if_neg (by omega)]
      unfold upR
      rw [if_neg e]
      exact S.2 b b1 b2
theorem sr_st (S : Sr h R) {c : Nat} (a : Nat) (hc : c = 17 + a) (h1 : 1 ≤ a) (h2 : a ≤ 8) {k : Int} (x : Int) (k1 : 0 ≤ k) (k2 : k < szS a) : ∃ h', ast h (some c) 0 (zI k) (zI x) = some h' ∧ Sm h h' ∧ Sr h' (upR R a (upI (R a) k.toNat x)) := by
  obtain ⟨e1, e2⟩ := sr_ar S a hc h1 h2 (upI (R a) k.toNat x)
  refine ⟨_, ?_, e1, e2⟩
  subst hc
  exact astZ (S.2 a h1 h2) (by omega) k1 k2 (szS_r a)
theorem sr_pf (S : Sr h R) {c : Nat} (j : Nat) (hc : c = 8 + j) (hj : j < 6) (x : Int) : ∃ h', pfv h (some 17) [6] c (.int (zI x)) = some h' ∧ Sm h h' ∧ Sr h' (upR R 0 (upI (R 0) j x)) := by
  subst hc
  refine ⟨mj_up h 17 (oB 6 (sF (upI (R 0) j x))), ?_, Sm_up h _ (by omega) (by omega), ⟨?_, fun b b1 b2 => ?_⟩⟩
  · rw [pfv_o S.1 (by show 8 + j < 14; omega) rfl]
    congr 3
    rcases (show j = 0 ∨ j = 1 ∨ j = 2 ∨ j = 3 ∨ j = 4 ∨ j = 5 by omega) with rfl | rfl | rfl | rfl | rfl | rfl <;> rfl
  · rw [up_get, if_pos rfl]
    rfl
  · rw [up_get, if_neg (by omega)]
    unfold upR
    rw [if_neg (by omega)]
    exact S.2 b b1 b2
theorem sr_at (S : Sr h R) {c : Nat} (a : Nat) (hc : c = 17 + a) (h1 : 1 ≤ a) (h2 : a ≤ 8) {k : Int} (k1 : 0 ≤ k) (k2 : k < szS a) : f_C_at (some c) (zI k) h = some (zI (R a k.toNat)) := by
  subst hc
  exact s_at_in (S.2 a h1 h2) k1 k2 (szS_r a)
theorem sr_put (S : Sr h R) {c : Nat} (a : Nat) (hc : c = 17 + a) (h1 : 1 ≤ a) (h2 : a ≤ 8) {k : Int} (x : Int) (k1 : 0 ≤ k) (k2 : k < szS a) : ∃ h', f_C_put (some c) (zI k) (zI x) h = some h' ∧ Sm h h' ∧ Sr h' (upR R a (upI (R a) k.toNat x)) := by
  obtain ⟨e1, e2⟩ := sr_ar S a hc h1 h2 (upI (R a) k.toNat x)
  refine ⟨_, ?_, e1, e2⟩
  subst hc
  exact s_put (S.2 a h1 h2) (by omega) k1 k2 (szS_r a)
/-! its two steps -/
def addR (R : Nat → Nat → Int) (s tot code : Int) : Nat → Nat → Int := fun j => match j with
  | 0 => upI (R 0) 3 (R 0 3 + 1)
  | 2 => upI (R 2) s.toNat tot
  | 3 => upI (R 3) s.toNat code
  | 4 => upI (R 4) s.toNat (R 6 (tot % 21).toNat)
  | 5 => if 0 ≤ R 6 (tot % 21).toNat then upI (upI (R 5) s.toNat (-1)) (R 6 (tot % 21).toNat).toNat s else upI (R 5) s.toNat (-1)
  | 6 => upI (R 6) (tot % 21).toNat s
  | j => R j
theorem s_add82 (S : Sr h R) {s k : Int} (k1 : 0 ≤ k) (k2 : k < 21) : ∃ h', b_S_add_82 (some 17) (zI s) (zI k) h = some h' ∧ Sm h h' ∧ Sr h' (upR (upR R 6 (upI (R 6) k.toNat s)) 0 (upI (R 0) 3 (R 0 3 + 1))) := by
  unfold b_S_add_82
  rw [sg5 S, bd]
  obtain ⟨h1, e1, m1, S1⟩ := sr_st S 6 (c := 23) rfl (by omega) (by omega) s k1 (show k < (21 : Nat) by omega)
  rw [e1, bd, sg11 S1, bd, l1, zI_add]
  obtain ⟨h2, e2, m2, S2⟩ := sr_pf S1 3 (c := 11) rfl (by omega) ((upR R 6 (upI (R 6) k.toNat s)) 0 3 + 1)
  rw [e2]
  exact ⟨h2, rfl, m1.tr m2, S2⟩
theorem s_S_add (S : Sr h R) {s tot code : Int} (s1 : 0 ≤ s) (s2 : s < 576) (t1 : 0 ≤ tot) (t2 : tot ≤ 100000) (x1 : -1 ≤ R 6 (tot % 21).toNat) (x2 : R 6 (tot % 21).toNat < 576) : ∃ h', f_S_add (some 17) (zI s) (zI tot) (zI code) h = some h' ∧ Sm h h' ∧ Sr h' (addR R s tot code) := by
  obtain ⟨x, hx⟩ : ∃ x, x = R 6 (tot % 21).toNat := ⟨_, rfl⟩
  rw [← hx] at x1 x2
  unfold f_S_add
  simp (disch := omega) only [l0, l576, l21, lm1, zI_lt, zI_le, zI_rem]
  rw [if_neg (by omega), if_neg (by omega), if_pos (by omega), sg5 S, bd, sr_ld S 6 (c := 23) rfl (by omega) (by omega) (by omega) (show tot % 21 < (21 : Nat) by omega), bd, sg1 S, bd, ← hx]
  obtain ⟨h1, e1, m1, S1⟩ := sr_st S 2 (c := 19) rfl (by omega) (by omega) tot s1 (show s < (576 : Nat) by omega)
  rw [e1, bd, sg2 S1, bd]
  obtain ⟨h2, e2, m2, S2⟩ := sr_st S1 3 (c := 20) rfl (by omega) (by omega) code s1 (show s < (576 : Nat) by omega)
  rw [e2, bd, sg3 S2, bd]
  obtain ⟨h3, e3, m3, S3⟩ := sr_st S2 4 (c := 21) rfl (by omega) (by omega) x s1 (show s < (576 : Nat) by omega)
  rw [e3, bd, sg4 S3, bd]
  obtain ⟨h4, e4, m4, S4⟩ := sr_st S3 5 (c := 22) rfl (by omega) (by omega) (-1) s1 (show s < (576 : Nat) by omega)
  rw [e4, bd]
  simp (disch := omega) only [zI_lt, zI_le]
  by_cases c : x < 0
  · rw [if_pos c]
    obtain ⟨h5, e5, m5, S5⟩ := s_add82 S4 (s := s) (k := tot % 21) (by omega) (by omega)
    rw [e5]
    refine ⟨h5, rfl, m1.tr (m2.tr (m3.tr (m4.tr m5))), S5.cg rfl rfl rfl rfl ?_ ?_ rfl rfl rfl⟩
    · show upI (R 4) s.toNat x = upI (R 4) s.toNat (R 6 (tot % 21).toNat)
      rw [hx]
    · show upI (R 5) s.toNat (-1) = if 0 ≤ R 6 (tot % 21).toNat then _ else _
      rw [if_neg (by omega)]
  · rw [if_neg c, if_neg (by omega), sg4 S4, bd]
    obtain ⟨h5, e5, m5, S5⟩ := sr_st S4 5 (c := 22) rfl (by omega) (by omega) s (show 0 ≤ x by omega) (show x < (576 : Nat) by omega)
    rw [e5, bd]
    obtain ⟨h6, e6, m6, S6⟩ := s_add82 S5 (s := s) (k := tot % 21) (by omega) (by omega)
    rw [e6]
    refine ⟨h6, rfl, m1.tr (m2.tr (m3.tr (m4.tr (m5.tr m6)))), S6.cg rfl rfl rfl rfl ?_ ?_ rfl rfl rfl⟩
    · show upI (R 4) s.toNat x = upI (R 4) s.toNat (R 6 (tot % 21).toNat)
      rw [hx]
    · show upI (upI (R 5) s.toNat (-1)) x.toNat s = if 0 ≤ R 6 (tot % 21).toNat then _ else _
      rw [if_pos (by omega), ← hx]
def remR (R : Nat → Nat → Int) (s : Int) : Nat → Nat → Int := fun j => match j with
  | 0 => upI (R 0) 3 (R 0 3 - 1)
  | 4 => if 0 ≤ R 5 s.toNat then upI (R 4) (R 5 s.toNat).toNat (R 4 s.toNat) else R 4
  | 5 => if 0 ≤ R 4 s.toNat then upI (R 5) (R 4 s.toNat).toNat (R 5 s.toNat) else R 5
  | 6 => if 0 ≤ R 5 s.toNat then R 6 else upI (R 6) (R 2 s.toNat % 21).toNat (R 4 s.toNat)
  | j => R j
theorem s_rem89 (S : Sr h R) : ∃ h', b_S_remove_89 (some 17) h = some h' ∧ Sm h h' ∧ Sr h' (upR R 0 (upI (R 0) 3 (R 0 3 - 1))) := by
  unfold b_S_remove_89
  rw [sg11 S, bd, l1, zI_sub]
  obtain ⟨h2, e2, m2, S2⟩ := sr_pf S 3 (c := 11) rfl (by omega) (R 0 3 - 1)
  rw [e2]
  exact ⟨h2, rfl, m2, S2⟩
theorem s_rem71 (S : Sr h R) {p q : Int} (q1 : -1 ≤ q) (q2 : q < 576) : ∃ h', b_S_remove_71 (some 17) (zI p) (zI q) h = some h' ∧ Sm h h' ∧ Sr h' (upR (upR R 5 (if 0 ≤ q then upI (R 5) q.toNat p else R 5)) 0 (upI (R 0) 3 (R 0 3 - 1))) := by
  unfold b_S_remove_71
  simp (disch := omega) only [l0, l576, zI_lt, zI_le]
  by_cases c : q < 0
  · rw [if_pos c]
    obtain ⟨h2, e2, m2, S2⟩ := s_rem89 S
    refine ⟨h2, e2, m2, S2.cg rfl rfl rfl rfl rfl ?_ rfl rfl rfl⟩
    show R 5 = if 0 ≤ q then upI (R 5) q.toNat p else R 5
    rw [if_neg (by omega)]
  · rw [if_neg c, if_neg (by omega), sg4 S, bd]
    obtain ⟨h1, e1, m1, S1⟩ := sr_st S 5 (c := 22) rfl (by omega) (by omega) p (show 0 ≤ q by omega) (show q < (576 : Nat) by omega)
    rw [e1, bd]
    obtain ⟨h2, e2, m2, S2⟩ := s_rem89 S1
    refine ⟨h2, e2, m1.tr m2, S2.cg rfl rfl rfl rfl rfl ?_ rfl rfl rfl⟩
    show upI (R 5) q.toNat p = if 0 ≤ q then upI (R 5) q.toNat p else R 5
    rw [if_pos (by omega)]
theorem s_S_remove (S : Sr h R) {s : Int} (s1 : 0 ≤ s) (s2 : s < 576) (t1 : 0 ≤ R 2 s.toNat) (t2 : R 2 s.toNat ≤ 100000) (p1 : -1 ≤ R 5 s.toNat) (p2 : R 5 s.toNat < 576) (q1 : -1 ≤ R 4 s.toNat) (q2 : R 4 s.toNat < 576) : ∃ h', f_S_remove (some 17) (zI s) h = some h' ∧ Sm h h' ∧ Sr h' (remR R s) := by
  unfold f_S_remove
  simp (disch := omega) only [l0, l576, zI_lt, zI_le]
  rw [if_neg (by omega), if_neg (by omega), sg1 S, bd, sr_ld S 2 (c := 19) rfl (by omega) (by omega) s1 (show s < (576 : Nat) by omega), bd]
  simp (disch := omega) only [zI_le]
  rw [if_pos t1, sg4 S, bd, sr_ld S 5 (c := 22) rfl (by omega) (by omega) s1 (show s < (576 : Nat) by omega), bd, sg3 S, bd, sr_ld S 4 (c := 21) rfl (by omega) (by omega) s1 (show s < (576 : Nat) by omega), bd]
  simp (disch := omega) only [zI_lt, zI_le]
  by_cases c : R 5 s.toNat < 0
  · rw [if_pos c]
    unfold b_S_remove_56
    rw [sg5 S, bd, sg1 S, bd, sr_ld S 2 (c := 19) rfl (by omega) (by omega) s1 (show s < (576 : Nat) by omega), bd, l21, zI_rem (by omega) (by omega) (by omega) (by omega)]
    obtain ⟨h1, e1, m1, S1⟩ := sr_st S 6 (c := 23) (k := R 2 s.toNat % 21) rfl (by omega) (by omega) (R 4 s.toNat) (by omega) (show R 2 s.toNat % 21 < (21 : Nat) by omega)
    rw [e1, bd]
    obtain ⟨h2, e2, m2, S2⟩ := s_rem71 S1 (p := R 5 s.toNat) q1 q2
    refine ⟨h2, e2, m1.tr m2, S2.cg rfl rfl rfl rfl ?_ rfl ?_ rfl rfl⟩
    · show R 4 = if 0 ≤ R 5 s.toNat then _ else R 4
      rw [if_neg (by omega)]
    · show upI (R 6) (R 2 s.toNat % 21).toNat (R 4 s.toNat) = if 0 ≤ R 5 s.toNat then _ else _
      rw [if_neg (by omega)]
  · rw [if_neg c, if_neg (by omega)]
    obtain ⟨h1, e1, m1, S1⟩ := sr_st S 4 (c := 21) rfl (by omega) (by omega) (R 4 s.toNat) (show 0 ≤ R 5 s.toNat by omega) (show R 5 s.toNat < (576 : Nat) by omega)
    rw [bd, e1, bd]
    obtain ⟨h2, e2, m2, S2⟩ := s_rem71 S1 (p := R 5 s.toNat) q1 q2
    refine ⟨h2, e2, m1.tr m2, S2.cg rfl rfl rfl rfl ?_ rfl ?_ rfl rfl⟩
    · show upI (R 4) (R 5 s.toNat).toNat (R 4 s.toNat) = if 0 ≤ R 5 s.toNat then _ else _
      rw [if_pos (by omega)]
    · show R 6 = if 0 ≤ R 5 s.toNat then R 6 else _
      rw [if_pos (by omega)]
end
