/-! ===== the class's own object; a basin becomes another ===== -/
def cF (t f : Int) : List Value := [.ref 4, .ref 8, .ref 10, .ref 17, .ref 26, .ref 29, .ref 32, .ref 33, .int (zI t), .int (zI f)]
def CO (h : MH) (t f : Int) : Prop := h.1 3 = oB 10 (cF t f)
section
variable {h : MH} {t f : Int}
theorem co_on (C : CO h t f) {α : Type} (x : Option α) : onc h (some 3) 10 x = x := onc_o C
theorem cg0 (C : CO h t f) : gfr h (some 3) [10] 0 = some (some 4) := gfr_o C rfl rfl
theorem cg1 (C : CO h t f) : gfr h (some 3) [10] 1 = some (some 8) := gfr_o C rfl rfl
theorem cg2 (C : CO h t f) : gfr h (some 3) [10] 2 = some (some 10) := gfr_o C rfl rfl
theorem cg3 (C : CO h t f) : gfr h (some 3) [10] 3 = some (some 17) := gfr_o C rfl rfl
theorem cg4 (C : CO h t f) : gfr h (some 3) [10] 4 = some (some 26) := gfr_o C rfl rfl
theorem cg5 (C : CO h t f) : gfr h (some 3) [10] 5 = some (some 29) := gfr_o C rfl rfl
theorem cg6 (C : CO h t f) : gfr h (some 3) [10] 6 = some (some 32) := gfr_o C rfl rfl
theorem cg7 (C : CO h t f) : gfr h (some 3) [10] 7 = some (some 33) := gfr_o C rfl rfl
theorem cf8 (C : CO h t f) : gfi h (some 3) [10] 8 = some (zI t) := gfi_o C rfl rfl
theorem cf9 (C : CO h t f) : gfi h (some 3) [10] 9 = some (zI f) := gfi_o C rfl rfl
theorem CO.fr {lo hi : Nat} {h' : MH} (C : CO h t f) (c : Ch lo hi h h') (hh : hi < 3 ∨ 3 < lo) : CO h' t f := (c.2 3 (by omega)).trans C
theorem co_p8 (C : CO h t f) (x : Int) : ∃ h', pfv h (some 3) [10] 8 (.int (zI x)) = some h' ∧ Ch 3 3 h h' ∧ CO h' x f := by
  refine ⟨mj_up h 3 (oB 10 (cF x f)), ?_, Ch_up h _ (by omega) (by omega), by unfold CO; rw [up_get, if_pos rfl]⟩
  rw [pfv_o C (by show 8 < 10; omega) rfl]
  rfl
theorem co_p9 (C : CO h t f) (x : Int) : ∃ h', pfv h (some 3) [10] 9 (.int (zI x)) = some h' ∧ Ch 3 3 h h' ∧ CO h' t x := by
  refine ⟨mj_up h 3 (oB 10 (cF t x)), ?_, Ch_up h _ (by omega) (by omega), by unfold CO; rw [up_get, if_pos rfl]⟩
  rw [pfv_o C (by show 9 < 10; omega) rfl]
  rfl
end
/-- hands stay as they are -/
def Hk (h h' : MH) : Prop := ∀ p, 48 ≤ p → (∃ s n mi, h.1 p = hC s n mi) → h'.1 p = h.1 p
theorem Ch.hk {lo hi : Nat} {h h' : MH} (c : Ch lo hi h h') (hh : hi < 48) : Hk h h' := fun p hp _ => c.2 p (by omega)
def Gs (h : MH) (g : Nat → Option Nat) : Prop := ∀ n, n < 4 → g n = none ∨ ∃ p s n' mi, g n = some p ∧ 48 ≤ p ∧ h.1 p = hC s n' mi
theorem Gs.fr {h h' : MH} {g : Nat → Option Nat} (G : Gs h g) (k : Hk h h') : Gs h' g := by
  intro n hn
  rcases G n hn with e | ⟨p, s, n', mi, e1, e2, e3⟩
  · exact Or.inl e
  · exact Or.inr ⟨p, s, n', mi, e1, e2, (k p e2 ⟨s, n', mi, e3⟩).trans e3⟩
abbrev rQ (g : Nat → Option Nat) : MC := .inr (.inl (2, 4, g))
/-- a basin whatever it holds -/
def Tb (h : MH) (a : Nat) : Prop := ∃ (t f : Nat → Int) (g : Nat → Option Nat), h.1 a = bO t a ∧ h.1 (a + 1) = aZ 24 f ∧ (∀ j, 24 ≤ j → f j = 0) ∧ h.1 (a + 2) = rQ g ∧ Gs h g
def Bx (h : MH) (a : Nat) (v : Nat → Int) : Prop := Bs h a v ∧ Tb h a
theorem hC_ne {h : MH} {p : Nat} {s n mi : Int} (H : h.1 p = hC s n mi) {a : Nat} {v : Nat → Int} (B : h.1 a = bO v a) : p ≠ a := by
  intro e
  rw [e, B] at H
  have z : (1 : Nat) = sC s := congrArg (fun c : MC => match c with
    | .inr (.inr q) => q.1
    | _ => 0) H
  revert z
  unfold sC
  (repeat' split) <;> intro z <;> omega
theorem Tb.fr {h h' : MH} {a : Nat} (T : Tb h a) (k : Hk h h') (h1 : h'.1 a = h.1 a) (h2 : h'.1 (a + 1) = h.1 (a + 1)) (h3 : h'.1 (a + 2) = h.1 (a + 2)) : Tb h' a := by
  obtain ⟨t, f, g, t1, t2, t3, t4, t5⟩ := T
  exact ⟨t, f, g, h1.trans t1, h2.trans t2, t3, h3.trans t4, t5.fr k⟩
theorem Bs.fr {h h' : MH} {a : Nat} {v : Nat → Int} (B : Bs h a v) (k : Hk h h') (h1 : h'.1 a = h.1 a) (h2 : h'.1 (a + 1) = h.1 (a + 1)) (h3 : h'.1 (a + 2) = h.1 (a + 2)) : Bs h' a v := by
  obtain ⟨B0, B1, g, B2, B3⟩ := B
  refine ⟨h1.trans B0, h2.trans B1, g, h3.trans B2, fun i hi => ?_⟩
  obtain ⟨p, p1, p2, p3⟩ := B3 i hi
  exact ⟨p, p1, p2, (k p p2 ⟨_, _, _, p3⟩).trans p3⟩
theorem Bx.fr {h h' : MH} {a : Nat} {v : Nat → Int} (B : Bx h a v) (k : Hk h h') (h1 : h'.1 a = h.1 a) (h2 : h'.1 (a + 1) = h.1 (a + 1)) (h3 : h'.1 (a + 2) = h.1 (a + 2)) : Bx h' a v := ⟨B.1.fr k h1 h2 h3, B.2.fr k h1 h2 h3⟩
theorem Bx.ch {lo hi : Nat} {h h' : MH} {a : Nat} {v : Nat → Int} (B : Bx h a v) (c : Ch lo hi h h') (hh : hi < 48) (hl : hi < a ∨ a + 2 < lo) : Bx h' a v := B.fr (c.hk hh) (c.2 a (by omega)) (c.2 (a + 1) (by omega)) (c.2 (a + 2) (by omega))
theorem Tb.ch {lo hi : Nat} {h h' : MH} {a : Nat} (B : Tb h a) (c : Ch lo hi h h') (hh : hi < 48) (hl : hi < a ∨ a + 2 < lo) : Tb h' a := B.fr (c.hk hh) (c.2 a (by omega)) (c.2 (a + 1) (by omega)) (c.2 (a + 2) (by omega))
theorem pf_up {h : MH} {a k : Nat} {fs : List Value} {v : Value} (hk : k < fs.length) : pfv (mj_up h a (oB 1 fs)) (some a) [1] k v = some (mj_up h a (oB 1 (fs.set k v))) := by
  rw [pfv_o (h := mj_up h a (oB 1 fs)) (c := 1) (fs := fs) (by rw [up_get, if_pos rfl]) hk rfl, up_up]
theorem alen_q {h : MH} {a : Nat} {g : Nat → Option Nat} (H : h.1 a = rQ g) : alen h (some a) = some (zI 4) := by
  simp only [alen, H]
  rfl
theorem qld_q {h : MH} {a : Nat} {g : Nat → Option Nat} (H : h.1 a = rQ g) {k : Nat} (hk : k < 4) : qld h (some a) 2 (zI k) = some (g k) := by
  have hc : (zI (k : Int)).toNatClampNeg = k := by rw [zI_clamp (by omega) (by omega)]; omega
  have h0 : (0 : Int32) ≤ zI k := (zI_le (a := 0) (by omega) (by omega) (by omega) (by omega)).mpr (by omega)
  simp only [qld, mj_arq, H, Option.bind_some, hc]
  rw [if_pos ⟨trivial, h0, hk⟩]
theorem qst_q {h : MH} {a : Nat} {g : Nat → Option Nat} (H : h.1 a = rQ g) {k : Nat} (hk : k < 4) {o : Option Nat} (ho : o = none ∨ ∃ p s n mi, o = some p ∧ h.1 p = hC s n mi) : qst h (some a) 2 [2, 3, 4, 7, 8] (zI k) o = some (mj_up h a (rQ (va_up g k o))) := by
  have hc : (zI (k : Int)).toNatClampNeg = k := by rw [zI_clamp (by omega) (by omega)]; omega
  have h0 : (0 : Int32) ≤ zI k := (zI_le (a := 0) (by omega) (by omega) (by omega) (by omega)).mpr (by omega)
  have hcl : mj_clo h o [2, 3, 4, 7, 8] = true := by
    rcases ho with e | ⟨p, s, n, mi, e, e2⟩
    · rw [e]; rfl
    · rw [e]
      simp only [mj_clo, mj_obj, e2]
      rw [sC_mem s]
      rfl
  simp only [qst, mj_arq, H, Option.bind_some, hc]
  rw [if_pos ⟨trivial, h0, hk, hcl⟩]
  rfl
section
variable {F a b : Nat} {v : Nat → Int}
theorem s_bec104 (ha : 3 ≤ a) (hab : a + 2 < b ∨ b + 2 < a) {gB : Nat → Option Nat} : ∀ (d k fu : Nat) (h : MH) (gA : Nat → Option Nat), k + d = 4 → d < fu → h.1 a = bO v a → h.1 b = bO v b → h.1 (a + 2) = rQ gA → h.1 (b + 2) = rQ gB → Gs h gB → (∀ j, j < k → gA j = gB j) →
    ∃ gA', (∀ j, j < 4 → gA' j = gB j) ∧ b_B_become_104 F fu (some a) (some b) (zI k) h = some (mj_up h (a + 2) (rQ gA')) := by
  intro d
  induction d with
  | zero =>
    intro k fu h gA hk hf A0 B0 A2 B2 G hj
    obtain ⟨fu, rfl⟩ : ∃ q, fu = q + 1 := ⟨fu - 1, by omega⟩
    refine ⟨gA, fun j hj2 => hj j (by omega), ?_⟩
    unfold b_B_become_104
    rw [(b_g A0).2.2.2.2.2.2.2.2.2.2, bd, alen_q A2, bd]
    simp (disch := omega) only [zI_le]
    rw [if_pos (by omega), ← A2, up_id]
  | succ d ih =>
    intro k fu h gA hk hf A0 B0 A2 B2 G hj
    obtain ⟨fu, rfl⟩ : ∃ q, fu = q + 1 := ⟨fu - 1, by omega⟩
    have hq := qst_q A2 (k := k) (by omega) (o := gB k) (by
      rcases G k (by omega) with e | ⟨p, s, n', mi, e1, e2, e3⟩
      · exact Or.inl e
      · exact Or.inr ⟨p, s, n', mi, e1, e3⟩)
    have G2 : Gs (mj_up h (a + 2) (rQ (va_up gA k (gB k)))) gB := by
      intro n hn
      rcases G n hn with e | ⟨p, s, n', mi, e1, e2, e3⟩
      · exact Or.inl e
      · refine Or.inr ⟨p, s, n', mi, e1, e2, ?_⟩
        rw [up_get, if_neg ?_]
        · exact e3
        · intro z
          rw [z, A2] at e3
          cases e3
    obtain ⟨gA', g1, g2⟩ := ih (k + 1) fu (mj_up h (a + 2) (rQ (va_up gA k (gB k)))) (va_up gA k (gB k)) (by omega) (by omega) (by rw [up_get, if_neg (by omega)]; exact A0) (by rw [up_get, if_neg (by omega)]; exact B0) (by rw [up_get, if_pos rfl]) (by rw [up_get, if_neg (by omega)]; exact B2) G2 (fun j hj2 => by
      unfold va_up
      by_cases e : j = k
      · rw [if_pos e, e]
      · rw [if_neg e]; exact hj j (by omega))
    refine ⟨gA', g1, ?_⟩
    unfold b_B_become_104
    simp only [(b_g A0).2.2.2.2.2.2.2.2.2.2, (b_g B0).2.2.2.2.2.2.2.2.2.2, bd, alen_q A2, alen_q B2, qld_q B2 (k := k) (by omega)]
    rw [hq]
    simp (disch := omega) only [zI_le]
    rw [if_neg (by omega), if_neg (by omega), bd, l1, zI_add]
    rw [up_up] at g2
    exact g2
theorem s_bec74 (ha : 3 ≤ a) (hab : a + 2 < b ∨ b + 2 < a) (hF : 100 ≤ F) {gB : Nat → Option Nat} {fB : Nat → Int} (zB : ∀ j, 24 ≤ j → fB j = 0) : ∀ (d k fu : Nat) (h : MH) (fA : Nat → Int) (gA : Nat → Option Nat), k + d = 24 → d < fu → h.1 a = bO v a → h.1 b = bO v b → h.1 (a + 1) = aZ 24 fA → h.1 (b + 1) = aZ 24 fB → h.1 (a + 2) = rQ gA → h.1 (b + 2) = rQ gB → Gs h gB → (∀ j, 24 ≤ j → fA j = 0) → (∀ j, j < k → fA j = fB j) →
    ∃ gA', (∀ j, j < 4 → gA' j = gB j) ∧ b_B_become_74 F fu (some a) (some b) (zI k) h = some (mj_up (mj_up h (a + 1) (aZ 24 fB)) (a + 2) (rQ gA')) := by
  intro d
  induction d with
  | zero =>
    intro k fu h fA gA hk hf A0 B0 A1 B1 A2 B2 G zA hj
    obtain ⟨fu, rfl⟩ : ∃ q, fu = q + 1 := ⟨fu - 1, by omega⟩
    obtain ⟨gA', g1, g2⟩ := s_bec104 (F := F) ha hab 4 0 F h gA rfl (by omega) A0 B0 A2 B2 G (fun j hj => by omega)
    refine ⟨gA', g1, ?_⟩
    have e : fA = fB := by
      funext j
      by_cases c : j < 24
      · exact hj j (by omega)
      · rw [zA j (by omega), zB j (by omega)]
    unfold b_B_become_74
    simp (disch := omega) only [l24, zI_le]
    rw [if_pos (by omega), ← e, ← A1, up_id, l0]
    exact g2
  | succ d ih =>
    intro k fu h fA gA hk hf A0 B0 A1 B1 A2 B2 G zA hj
    obtain ⟨fu, rfl⟩ : ∃ q, fu = q + 1 := ⟨fu - 1, by omega⟩
    have G2 : Gs (mj_up h (a + 1) (aZ 24 (upI fA k (fB k)))) gB := by
      intro n hn
      rcases G n hn with e | ⟨p, s, n', mi, e1, e2, e3⟩
      · exact Or.inl e
      · refine Or.inr ⟨p, s, n', mi, e1, e2, ?_⟩
        rw [up_get, if_neg ?_]
        · exact e3
        · intro z
          rw [z, A1] at e3
          cases e3
    obtain ⟨gA', g1, g2⟩ := ih (k + 1) fu (mj_up h (a + 1) (aZ 24 (upI fA k (fB k)))) (upI fA k (fB k)) gA (by omega) (by omega) (by rw [up_get, if_neg (by omega)]; exact A0) (by rw [up_get, if_neg (by omega)]; exact B0) (by rw [up_get, if_pos rfl]) (by rw [up_get, if_neg (by omega)]; exact B1) (by rw [up_get, if_neg (by omega)]; exact A2) (by rw [up_get, if_neg (by omega)]; exact B2) G2 (fun j hj2 => by rw [upI_n _ _ (by omega)]; exact zA j hj2) (fun j hj2 => by
      by_cases e : j = k
      · rw [e, upI_s]
      · rw [upI_n _ _ e]; exact hj j (by omega))
    refine ⟨gA', g1, ?_⟩
    have ea := s_at_in B1 (i := (k : Int)) (by omega) (by omega) (by omega)
    have ep := s_put A1 (by omega) (i := (k : Int)) (x := fB k) (by omega) (by omega) (by omega)
    rw [Int.toNat_natCast] at ea ep
    unfold b_B_become_74
    simp only [(b_g A0).2.2.2.2.2.2.2.2.2.1, (b_g B0).2.2.2.2.2.2.2.2.2.1, bd, ea, ep]
    simp (disch := omega) only [l24, zI_le]
    rw [if_neg (by omega), l1, zI_add]
    rw [up_up] at g2
    exact g2
theorem s_become (ha : 3 ≤ a) (hab : a + 2 < b ∨ b + 2 < a) (hF : 100 ≤ F) {h : MH} (T : Tb h a) (B : Bx h b v) (Z : Wz v) (w4 : v 4 ≤ 4) : ∃ h', f_B_become F (some a) (some b) h = some h' ∧ Ch a (a + 2) h h' ∧ Hk h h' ∧ Bx h' a v := by
  obtain ⟨t, fA, gA, A0, A1, zA, A2, -⟩ := T
  obtain ⟨⟨B0, B1, g0, B2, B3⟩, t', f', gB, -, -, -, C2, G⟩ := B
  have eg : g0 = gB := by
    rw [B2] at C2
    cases C2
    rfl
  subst eg
  have zB : ∀ j, 24 ≤ j → (fun j => v (18 + j)) j = 0 := fun j hj => Z _ (by omega)
  have B0b : ∀ c, (mj_up h a c).1 b = bO v b := fun c => by rw [up_get, if_neg (by omega)]; exact B0
  have Gu : Gs (mj_up h a (bO v a)) g0 := by
    intro n hn
    rcases G n hn with e | ⟨p, s, n', mi, e1, e2, e3⟩
    · exact Or.inl e
    · refine Or.inr ⟨p, s, n', mi, e1, e2, ?_⟩
      rw [up_get, if_neg (hC_ne e3 A0)]
      exact e3
  obtain ⟨gA', g1, g2⟩ := s_bec74 (F := F) (v := v) ha hab hF zB 24 0 F (mj_up h a (bO v a)) fA gA rfl (by omega) (by rw [up_get, if_pos rfl]) (B0b _) (by rw [up_get, if_neg (by omega)]; exact A1) (by rw [up_get, if_neg (by omega)]; exact B1) (by rw [up_get, if_neg (by omega)]; exact A2) (by rw [up_get, if_neg (by omega)]; exact B2) Gu zA (fun j hj => by omega)
  have hk : Hk h (mj_up (mj_up (mj_up h a (bO v a)) (a + 1) (aZ 24 (fun j => v (18 + j)))) (a + 2) (rQ gA')) := by
    intro p hp hh
    obtain ⟨s, n, mi, e⟩ := hh
    have n0 := hC_ne e A0
    have n1 : p ≠ a + 1 := by
      intro z
      rw [z, A1] at e
      cases e
    have n2 : p ≠ a + 2 := by
      intro z
      rw [z, A2] at e
      cases e
    rw [up_get, if_neg n2, up_get, if_neg n1, up_get, if_neg n0]
  refine ⟨mj_up (mj_up (mj_up h a (bO v a)) (a + 1) (aZ 24 (fun j => v (18 + j)))) (a + 2) (rQ gA'), ?_, ⟨rfl, fun j hj => by rw [up_get, if_neg (by omega), up_get, if_neg (by omega), up_get, if_neg (by omega)]⟩, hk, ⟨?_, ?_, gA', ?_, ?_⟩, v, (fun j => v (18 + j)), gA', ?_, ?_, zB, ?_, ?_⟩
  · rw [← g2]
    unfold f_B_become
    rw [(b_g B0).1, bd, pfv_o A0 (by simp [bF]) rfl, bd]
    rw [(b_g (B0b _)).2.1, bd, pf_up (by simp [bF]), bd]
    rw [(b_g (B0b _)).2.2.1, bd, pf_up (by simp [bF]), bd]
    rw [(b_g (B0b _)).2.2.2.1, bd, pf_up (by simp [bF]), bd]
    rw [(b_g (B0b _)).2.2.2.2.1, bd, pf_up (by simp [bF]), bd]
    rw [(b_g (B0b _)).2.2.2.2.2.1, bd, pf_up (by simp [bF]), bd]
    rw [(b_g (B0b _)).2.2.2.2.2.2.1, bd, pf_up (by simp [bF]), bd]
    rw [(b_g (B0b _)).2.2.2.2.2.2.2.1, bd, pf_up (by simp [bF]), bd]
    rw [(b_g (B0b _)).2.2.2.2.2.2.2.2.1, bd, pf_up (by simp [bF]), bd, l0]
    rfl
  · rw [up_get, if_neg (by omega), up_get, if_neg (by omega), up_get, if_pos rfl]
  · rw [up_get, if_neg (by omega), up_get, if_pos rfl]
  · rw [up_get, if_pos rfl]
  · intro i hi
    obtain ⟨p, p1, p2, p3⟩ := B3 i hi
    exact ⟨p, by rw [g1 i (by omega)]; exact p1, p2, (hk p p2 ⟨_, _, _, p3⟩).trans p3⟩
  · rw [up_get, if_neg (by omega), up_get, if_neg (by omega), up_get, if_pos rfl]
  · rw [up_get, if_neg (by omega), up_get, if_pos rfl]
  · rw [up_get, if_pos rfl]
  · intro n hn
    rw [g1 n hn]
    rcases G n hn with e | ⟨p, s, n', mi, e1, e2, e3⟩
    · exact Or.inl e
    · exact Or.inr ⟨p, s, n', mi, e1, e2, (hk p e2 ⟨s, n', mi, e3⟩).trans e3⟩
end
