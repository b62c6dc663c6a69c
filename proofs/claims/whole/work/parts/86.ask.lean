/-! ===== ask ===== -/
theorem bd_pair {α β : Type} (x : Option (α × β)) : (Option.bind x fun q => some (q.1, q.2)) = x := by cases x <;> rfl
def tl (f : Nat → Int) (n : Nat) : Nat → Int := fun k => if k = 0 then (n : Int) else f (k - 1)
theorem tl_push (f : Nat → Int) (n : Nat) (b : Int) : upI (upI (tl f n) (n + 1) b) 0 (n + 1 : Nat) = tl (upI f n b) (n + 1) := by
  funext k
  unfold upI tl
  dsimp only
  by_cases c0 : k = 0
  · rw [if_pos c0, if_pos c0]
  · rw [if_neg c0, if_neg c0, if_neg c0]
    by_cases c1 : k = n + 1
    · rw [if_pos c1, if_pos (by omega)]
    · rw [if_neg c1, if_neg (by omega)]
def hT (h : MH) (f : Nat → Int) (n : Nat) : MH := mj_up h 33 (aZ 17 (tl f n))
def gT (g : MH) (K f : Nat → Int) (n : Nat) : MH := mj_up (mj_up g 45 (aZ 16 f)) 34 (mO (upI K 22 (n : Int)))
def pu (f : Nat → Int) (n : Nat) : List Int → Nat → Int
  | [] => f
  | b :: l => pu (upI f n b) (n + 1) l
theorem pu_same : ∀ (l : List Int) (n : Nat) (f f' : Nat → Int), (∀ q, q < n → f q = f' q) → ∀ q, q < n + l.length → pu f n l q = pu f' n l q := by
  intro l
  induction l with
  | nil => intro n f f' hq q h; exact hq q (by simpa using h)
  | cons b l ih =>
    intro n f f' hq q h
    refine ih (n + 1) _ _ (fun r hr => ?_) q (by rw [List.length_cons] at h; omega)
    unfold upI
    by_cases c : r = n
    · rw [if_pos c, if_pos c]
    · rw [if_neg c, if_neg c]; exact hq r (by omega)
section
variable {h g : MH} {K f v : Nat → Int} {n p : Nat} {s q mi : Int}
theorem hT_33 : (hT h f n).1 33 = aZ 17 (tl f n) := by unfold hT; rw [up_get, if_pos rfl]
theorem hT_n {j : Nat} (hj : j ≠ 33) : (hT h f n).1 j = h.1 j := by unfold hT; rw [up_get, if_neg hj]
theorem c_lv (b : Int) (hn : n < 16) : f_H_leave (some 33) (zI b) (hT h f n) = some (hT h (upI f n b) (n + 1)) := by
  have H : (hT h f n).1 33 = aZ 17 (tl f n) := hT_33
  have e0 : ald (hT h f n) (some 33) 0 (0 : Int32) = some (zI (n : Int)) := aldL H 0 0 rfl (by decide) (by decide)
  have x0 : zI (n : Int) < (0 : Int32) ↔ (n : Int) < 0 := zI_lt (b := 0) (by omega) (by omega) (by omega) (by omega)
  have x16 : (16 : Int32) ≤ zI (n : Int) ↔ 16 ≤ (n : Int) := zI_le (a := 16) (by omega) (by omega) (by omega) (by omega)
  have e1 := astZ H (by omega) (k := ((n + 1 : Nat) : Int)) (x := b) (by omega) (by omega) (by omega)
  rw [Int.toNat_natCast] at e1
  have H2 : (mj_up (hT h f n) 33 (aZ 17 (upI (tl f n) (n + 1) b))).1 33 = aZ 17 (upI (tl f n) (n + 1) b) := by rw [up_get, if_pos rfl]
  have e2 := astZ H2 (by omega) (k := 0) (x := ((n + 1 : Nat) : Int)) (by omega) (by omega) (by omega)
  unfold f_H_leave
  rw [if_neg (by intro z; cases z), alenZ H, bd, if_pos (by decide), e0, bd]
  simp only [x0, x16]
  rw [if_neg (by omega), if_neg (by omega), l1, zI_add, show (n : Int) + 1 = ((n + 1 : Nat) : Int) by omega, e1, bd, show (0 : Int32) = zI 0 from rfl, e2, bd, up_up, show (0 : Int).toNat = 0 from rfl, tl_push]
  unfold hT
  rw [up_up]
theorem gT_34 : (gT g K f n).1 34 = mO (upI K 22 (n : Int)) := by unfold gT; rw [up_get, if_pos rfl]
theorem gT_45 : (gT g K f n).1 45 = aZ 16 f := by unfold gT; rw [up_get, if_neg (by decide), up_get, if_pos rfl]
theorem gT_n {j : Nat} (h1 : j ≠ 34) (h2 : j ≠ 45) : (gT g K f n).1 j = g.1 j := by unfold gT; rw [up_get, if_neg h1, up_get, if_neg h2]
theorem gT_on {α : Type} (x : Option α) : onc (gT g K f n) (some 34) 11 x = x := onc_o gT_34
theorem m_lv (b : Int) (hn : n < 16) : f_M_leaves (some 34) (zI b) (gT g K f n) = some (gT g K (upI f n b) (n + 1)) := by
  have H : (gT g K f n).1 45 = aZ 16 f := gT_45
  have H0 : (gT g K f n).1 34 = mO (upI K 22 (n : Int)) := gT_34
  have e0 : gfi (gT g K f n) (some 34) [11] 22 = some (zI (n : Int)) := gfi_o H0 rfl rfl
  have e1 : gfr (gT g K f n) (some 34) [11] 21 = some (some 45) := gfr_o H0 rfl rfl
  have x16 : (16 : Int32) ≤ zI (n : Int) ↔ 16 ≤ (n : Int) := zI_le (a := 16) (by omega) (by omega) (by omega) (by omega)
  have e2 := astZ H (by omega) (k := (n : Int)) (x := b) (by omega) (by omega) (by omega)
  rw [Int.toNat_natCast] at e2
  have H1 : (mj_up (gT g K f n) 45 (aZ 16 (upI f n b))).1 34 = mO (upI K 22 (n : Int)) := by rw [up_get, if_neg (by decide)]; exact H0
  have e3 : gfi (mj_up (gT g K f n) 45 (aZ 16 (upI f n b))) (some 34) [11] 22 = some (zI (n : Int)) := gfi_o H1 rfl rfl
  unfold f_M_leaves
  rw [e0, bd]
  simp only [x16]
  rw [if_neg (by omega), e1, bd, bd, e2, bd, e3, bd, l1, zI_add, pfv_o H1 (by show 22 < 25; omega) rfl, bd]
  congr 1
  refine Prod.ext (funext fun j => ?_) rfl
  by_cases c34 : j = 34
  · rw [c34, up_get, if_pos rfl, gT_34]
    rfl
  · rw [up_get, if_neg c34, up_get]
    by_cases c45 : j = 45
    · rw [if_pos c45, c45, gT_45]
    · rw [if_neg c45, gT_n c34 c45, gT_n c34 c45]
theorem gT_15 : gfr (gT g K f n) (some 34) [11] 15 = some (some 40) := gfr_o gT_34 rfl rfl
theorem gT_ld (A : g.1 40 = aZ 42 v) {k : Int} (h1 : 0 ≤ k) (h2 : k < 42) : ald (gT g K f n) (some 40) 0 (zI k) = some (zI (v k.toNat)) := aldZ (n := 42) ((gT_n (by decide) (by decide)).trans A) h1 (by omega) (by omega)
theorem hT_cls (H : h.1 p = hC s q mi) (hp : p ≠ 33) : cls (hT h f n) (some p) = some (sC s) := cls_o ((hT_n hp).trans H)
theorem hT_g0 (H : h.1 p = hC s q mi) (hp : p ≠ 33) : gfi (hT h f n) (some p) [2, 3, 4, 7, 8] 0 = some (zI q) := gfi_o ((hT_n hp).trans H) rfl (sC_mem s)
theorem hT_g1 (H : h.1 p = hC s q mi) (hp : p ≠ 33) : gfi (hT h f n) (some p) [2, 3, 4, 7, 8] 1 = some (zI mi) := gfi_o ((hT_n hp).trans H) rfl (sC_mem s)
end
theorem sC_5 : sC 1 = 8 ∧ sC 2 = 3 ∧ sC 3 = 4 ∧ sC 4 = 7 ∧ sC 5 = 2 := by decide
theorem hnd_5 : mj_hand 8 = some () ∧ mj_hand 3 = some () ∧ mj_hand 4 = some () ∧ mj_hand 7 = some () ∧ mj_hand 2 = some () := ⟨rfl, rfl, rfl, rfl, rfl⟩
/-- what a hand answers when it's asked, and what bodies are gone through -/
def sizV (s n mi t : Int) : Int := if s = 1 then mi + (n + t) else if s = 2 then -(mi + 2 * (n + t)) else if s = 3 then mi + (n + t - 1000) else if s = 4 then mi - 100 else 2 * (mi - 100)
def marV (s n mi t : Int) : Int := if s = 1 then n + t else if s = 2 then 2 * (n + t) else if s = 3 then n + t - 1000 else if s = 4 then n - (mi - 100) else n - 2 * (mi - 100)
def sizL (s : Int) : List Int := if s = 1 then [11, 10, 21, 20] else if s = 2 then [12, 11, 10, 24, 21, 20] else if s = 3 then [11, 10, 22, 21, 20] else if s = 4 then [13, 10] else [14, 13, 10]
def marL (s : Int) : List Int := if s = 1 then [21, 20] else if s = 2 then [24, 21, 20] else if s = 3 then [22, 21, 20] else if s = 4 then [23, 20, 13, 10] else [23, 20, 14, 13, 10]
theorem c_siz {h : MH} {p : Nat} {s n mi t : Int} {f : Nat → Int} (H : h.1 p = hC s n mi) (hp : p ≠ 33) (s1 : 1 ≤ s) (s2 : s ≤ 5) : v_H_size (some p) (some 33) (zI t) (hT h f 0) = some (zI (sizV s n mi t), hT h (pu f 0 (sizL s)) (sizL s).length) := by
  obtain ⟨d1, d2, d3, d4, d5⟩ := sC_5
  obtain ⟨y1, y2, y3, y4, y5⟩ := hnd_5
  rcases (show s = 1 ∨ s = 2 ∨ s = 3 ∨ s = 4 ∨ s = 5 by omega) with rfl | rfl | rfl | rfl | rfl
  · simp (disch := omega) only [v_H_size, f_Sw_size, f_H_size, v_Sw_mark, f_Sw_mark, f_H_mark, hT_cls H hp, hT_g0 H hp, hT_g1 H hp, d1, y1, bd, l10, l11, l20, l21, c_lv, zI_add, Option.some.injEq, Nat.reduceEqDiff, ↓reduceIte, Nat.reduceAdd, Nat.zero_add]
    rfl
  · simp (disch := omega) only [v_H_size, f_Po_size, f_Sw_size, f_H_size, v_Sw_mark, f_Po_mark, f_Sw_mark, f_H_mark, hT_cls H hp, hT_g0 H hp, hT_g1 H hp, d2, y2, bd, l2, l10, l11, l12, l20, l21, l24, c_lv, zI_add, zI_mul, zI_neg, Option.some.injEq, Nat.reduceEqDiff, ↓reduceIte, Nat.reduceAdd, Nat.zero_add]
    rfl
  · simp (disch := omega) only [v_H_size, f_Sw_size, f_H_size, v_Sw_mark, f_Ro_mark, f_Sw_mark, f_H_mark, hT_cls H hp, hT_g0 H hp, hT_g1 H hp, d3, y3, bd, l1000, l10, l11, l20, l21, l22, c_lv, zI_add, zI_sub, Option.some.injEq, Nat.reduceEqDiff, ↓reduceIte, Nat.reduceAdd, Nat.zero_add]
    rfl
  · simp (disch := omega) only [v_H_size, f_Sh_size, f_H_size, hT_cls H hp, hT_g0 H hp, hT_g1 H hp, d4, y4, bd, l100, l10, l13, c_lv, zI_sub, Option.some.injEq, Nat.reduceEqDiff, ↓reduceIte, Nat.reduceAdd, Nat.zero_add]
    rfl
  · simp (disch := omega) only [v_H_size, f_Lf_size, f_Sh_size, f_H_size, hT_cls H hp, hT_g0 H hp, hT_g1 H hp, d5, y5, bd, l2, l100, l10, l13, l14, c_lv, zI_sub, zI_mul, Option.some.injEq, Nat.reduceEqDiff, ↓reduceIte, Nat.reduceAdd, Nat.zero_add]
    rfl
theorem c_mar {h : MH} {p : Nat} {s n mi t : Int} {f : Nat → Int} (H : h.1 p = hC s n mi) (hp : p ≠ 33) (s1 : 1 ≤ s) (s2 : s ≤ 5) : v_H_mark (some p) (some 33) (zI t) (hT h f 0) = some (zI (marV s n mi t), hT h (pu f 0 (marL s)) (marL s).length) := by
  obtain ⟨d1, d2, d3, d4, d5⟩ := sC_5
  obtain ⟨y1, y2, y3, y4, y5⟩ := hnd_5
  rcases (show s = 1 ∨ s = 2 ∨ s = 3 ∨ s = 4 ∨ s = 5 by omega) with rfl | rfl | rfl | rfl | rfl
  · simp (disch := omega) only [v_H_mark, f_Sw_mark, f_H_mark, hT_cls H hp, hT_g0 H hp, hT_g1 H hp, d1, y1, bd, l20, l21, c_lv, zI_add, Option.some.injEq, Nat.reduceEqDiff, ↓reduceIte, Nat.reduceAdd, Nat.zero_add]
    rfl
  · simp (disch := omega) only [v_H_mark, f_Po_mark, f_Sw_mark, f_H_mark, hT_cls H hp, hT_g0 H hp, hT_g1 H hp, d2, y2, bd, l2, l20, l21, l24, c_lv, zI_add, zI_mul, Option.some.injEq, Nat.reduceEqDiff, ↓reduceIte, Nat.reduceAdd, Nat.zero_add]
    rfl
  · simp (disch := omega) only [v_H_mark, f_Ro_mark, f_Sw_mark, f_H_mark, hT_cls H hp, hT_g0 H hp, hT_g1 H hp, d3, y3, bd, l1000, l20, l21, l22, c_lv, zI_add, zI_sub, Option.some.injEq, Nat.reduceEqDiff, ↓reduceIte, Nat.reduceAdd, Nat.zero_add]
    rfl
  · simp (disch := omega) only [v_H_mark, f_Sh_mark, v_Sh_size, f_H_mark, f_Sh_size, f_H_size, hT_cls H hp, hT_g0 H hp, hT_g1 H hp, d4, y4, bd, l100, l10, l13, l20, l23, c_lv, zI_sub, Option.some.injEq, Nat.reduceEqDiff, ↓reduceIte, Nat.reduceAdd, Nat.zero_add]
    rfl
  · simp (disch := omega) only [v_H_mark, f_Sh_mark, v_Sh_size, f_H_mark, f_Lf_size, f_Sh_size, f_H_size, hT_cls H hp, hT_g0 H hp, hT_g1 H hp, d5, y5, bd, l2, l100, l10, l13, l14, l20, l23, c_lv, zI_sub, zI_mul, Option.some.injEq, Nat.reduceEqDiff, ↓reduceIte, Nat.reduceAdd, Nat.zero_add]
    rfl
section
variable {g : MH} {K f v : Nat → Int} {s n mi t : Int}
theorem m_plain {c : Nat} (A : g.1 40 = aZ 42 v) (n1 : 0 ≤ n) (n2 : n < 4) (hs : v (5 + n).toNat = s) (ht : v 15 = t) (s1 : 1 ≤ s) (s2 : s ≤ 3) (hc : c ≤ 10) : f_M_plainMark (some 34) (zI n) (gT g K f c) = some (zI (marV s n mi t), gT g K (pu f c (marL s)) (c + (marL s).length)) := by
  have e5 : ald (gT g K f c) (some 40) 0 (zI (5 + n)) = some (zI s) := by rw [← hs]; exact gT_ld A (by omega) (by omega)
  have e15 : ∀ f c, ald (gT g K f c) (some 40) 0 (zI 15) = some (zI t) := fun f c => by rw [← ht]; exact gT_ld A (by omega) (by omega)
  unfold f_M_plainMark b_M_plainMark_20 b_M_plainMark_31
  rcases (show s = 1 ∨ s = 2 ∨ s = 3 by omega) with rfl | rfl | rfl
  · simp (disch := omega) only [l5, l2, l3, l15, l20, l21, zI_add, gT_15, e5, e15, bd, gT_on, m_lv, zI_eq, Int.reduceEq, ↓reduceIte]
    rfl
  · simp (disch := omega) only [l5, l2, l3, l15, l20, l21, l24, zI_add, gT_15, e5, e15, bd, gT_on, m_lv, zI_eq, zI_mul, Int.reduceEq, ↓reduceIte]
    rfl
  · simp (disch := omega) only [l5, l2, l3, l15, l20, l21, l22, l1000, zI_add, zI_sub, gT_15, e5, e15, bd, gT_on, m_lv, zI_eq, Int.reduceEq, ↓reduceIte]
    rfl
theorem m_siz (A : g.1 40 = aZ 42 v) (n1 : 0 ≤ n) (n2 : n < 4) (hs : v (5 + n).toNat = s) (hm : v (9 + n).toNat = mi) (ht : v 15 = t) (s1 : 1 ≤ s) (s2 : s ≤ 5) {c : Nat} (hc : c ≤ 7) : f_M_sizeOf (some 34) (zI n) (gT g K f c) = some (zI (sizV s n mi t), gT g K (pu f c (sizL s)) (c + (sizL s).length)) := by
  have e5 : ∀ f c, ald (gT g K f c) (some 40) 0 (zI (5 + n)) = some (zI s) := fun f c => by rw [← hs]; exact gT_ld A (by omega) (by omega)
  have e9 : ∀ f c, ald (gT g K f c) (some 40) 0 (zI (9 + n)) = some (zI mi) := fun f c => by rw [← hm]; exact gT_ld A (by omega) (by omega)
  have pl : ∀ f c, c ≤ 10 → s ≤ 3 → f_M_plainMark (some 34) (zI n) (gT g K f c) = some (zI (marV s n mi t), gT g K (pu f c (marL s)) (c + (marL s).length)) := fun f c h1 h2 => m_plain A n1 n2 hs ht s1 h2 h1
  unfold f_M_sizeOf b_M_sizeOf_20 b_M_sizeOf_74
  rcases (show s = 1 ∨ s = 2 ∨ s = 3 ∨ s = 4 ∨ s = 5 by omega) with rfl | rfl | rfl | rfl | rfl
  · simp (disch := omega) only [l5, l4, l2, l9, l10, l11, zI_add, gT_15, e5, e9, bd, gT_on, m_lv, pl, zI_eq, zI_lt, Int.reduceEq, Int.reduceLT, ↓reduceIte]
    rfl
  · simp (disch := omega) only [l5, l4, l2, l9, l10, l11, l12, zI_add, zI_neg, gT_15, e5, e9, bd, gT_on, m_lv, pl, zI_eq, zI_lt, Int.reduceEq, Int.reduceLT, ↓reduceIte]
    rfl
  · simp (disch := omega) only [l5, l4, l2, l9, l10, l11, zI_add, gT_15, e5, e9, bd, gT_on, m_lv, pl, zI_eq, zI_lt, Int.reduceEq, Int.reduceLT, ↓reduceIte]
    rfl
  · simp (disch := omega) only [l5, l4, l9, l10, l13, l100, zI_add, zI_sub, gT_15, e5, e9, bd, gT_on, m_lv, zI_eq, zI_lt, Int.reduceEq, Int.reduceLT, ↓reduceIte]
    rfl
  · simp (disch := omega) only [l5, l4, l2, l9, l10, l13, l14, l100, zI_add, zI_sub, zI_mul, gT_15, e5, e9, bd, gT_on, m_lv, zI_eq, zI_lt, Int.reduceEq, Int.reduceLT, ↓reduceIte]
    rfl
theorem m_mar (A : g.1 40 = aZ 42 v) (n1 : 0 ≤ n) (n2 : n < 4) (hs : v (5 + n).toNat = s) (hm : v (9 + n).toNat = mi) (ht : v 15 = t) (s1 : 1 ≤ s) (s2 : s ≤ 5) : f_M_markOf (some 34) (zI n) (gT g K f 0) = some (zI (marV s n mi t), gT g K (pu f 0 (marL s)) (marL s).length) := by
  have e5 : ald (gT g K f 0) (some 40) 0 (zI (5 + n)) = some (zI s) := by rw [← hs]; exact gT_ld A (by omega) (by omega)
  have x4 : (4 : Int32) ≤ zI s ↔ 4 ≤ s := zI_le (a := 4) (by omega) (by omega) (by omega) (by omega)
  unfold f_M_markOf
  rw [gT_15, bd, l5, zI_add, e5, bd]
  simp only [x4]
  by_cases c : 4 ≤ s
  · rw [if_pos c, gT_on, l23, m_lv 23 (by omega), bd, gT_on, l20, m_lv 20 (by omega), bd, gT_on, m_siz A n1 n2 hs hm ht s1 s2 (by omega), bd, zI_sub]
    rcases (show s = 4 ∨ s = 5 by omega) with rfl | rfl
    · rfl
    · rfl
  · rw [if_neg c, gT_on, m_plain (mi := mi) A n1 n2 hs ht s1 (by omega) (by omega), bd, Nat.zero_add]
end
theorem s_ask (i j : Int32) : Ok (f_C_ask (some 3) i j) (f_M_ask (some 34) i j) := by
  intro h P X
  obtain ⟨k, k1, k2, rfl⟩ := i_ex i
  obtain ⟨d, d1, d2, rfl⟩ := i_ex j
  obtain ⟨E, M, C, D, I⟩ := id X
  have W := I.1.1
  have w4 := W.2.2.2.1
  have B := C.2.2.2.2.2.1
  have hw : f_C_within (zI d) (2 : Int32) = 0 ↔ ¬ (0 ≤ d ∧ d < 2) := s_within0 (b := 2) d1 d2 (by omega) (by omega)
  have hin : f_M_in (zI d) (0 : Int32) (1 : Int32) = 0 ↔ ¬ (0 ≤ d ∧ d < 2) := by
    rw [show f_M_in (zI d) (0 : Int32) (1 : Int32) = if 0 ≤ d ∧ d ≤ 1 then 1 else 0 from s_M_in (a := 0) (b := 1) d1 d2 (by omega) (by omega) (by omega) (by omega), ite_01]
    omega
  have hi : ∀ g, Mr g (th P) → f_M_isHand (some 34) (zI k) g = some (if 0 ≤ k ∧ k < P 6 4 then 1 else 0) := fun g M => m_isHand (P := th P) M W k1 k2
  have xd : zI d = (0 : Int32) ↔ d = 0 := zI_eq (b := 0) (by omega) (by omega) (by omega) (by omega)
  by_cases cb : (0 ≤ k ∧ k < P 6 4) ∧ (0 ≤ d ∧ d < 2)
  · obtain ⟨ck, cd⟩ := cb
    obtain ⟨s1, s2, -, -⟩ := W.2.2.2.2.1 k.toNat (by omega)
    obtain ⟨tc, T1, T2, T3, T4⟩ := C.2.2.2.2.2.2.2.2
    rcases c_handAt B.1 W k1 k2 with ⟨c1, -⟩ | ⟨-, p, p1, p2, p3⟩
    · exact absurd ck c1
    have ep : f_C_put (some 33) (0 : Int32) (0 : Int32) h = some (hT h (fun q => tc (q + 1)) 0) := by
      have := s_put T1 (by omega) (i := 0) (x := 0) (by omega) (by omega) (by omega)
      rw [show (0 : Int32) = zI 0 from rfl, this]
      unfold hT
      congr 3
      unfold tl upI
      funext q
      by_cases c : q = 0
      · rw [c]; rfl
      · rw [show (0 : Int).toNat = 0 from rfl, if_neg c, if_neg c]
        show tc q = tc (q - 1 + 1)
        rw [show q - 1 + 1 = q by omega]
    have fin : ∀ (l : List Int) (val : Int), l.length ≤ 16 → (∀ f : Nat → Int, (if zI d = (0 : Int32) then v_H_size (some p) (some 33) (zI (P 6 15)) (hT h f 0) else v_H_mark (some p) (some 33) (zI (P 6 15)) (hT h f 0)) = some (zI val, hT h (pu f 0 l) l.length)) → (∀ (g : MH) (K f : Nat → Int), g.1 40 = aZ 42 (P 6) → (if zI d = (0 : Int32) then f_M_sizeOf (some 34) (zI k) (gT g K f 0) else f_M_markOf (some 34) (zI k) (gT g K f 0)) = some (zI val, gT g K (pu f 0 l) l.length)) → ∃ x h1 h2 P2, f_C_ask (some 3) (zI k) (zI d) h = some (x, h1) ∧ f_M_ask (some 34) (zI k) (zI d) h1 = some (x, h2) ∧ J h2 P2 ∧ Gr h h1 h2 := by
      intro l val hl eC eM
      have c1 : Ch 33 33 h (hT h (pu (fun q => tc (q + 1)) 0 l) l.length) := Ch_up h _ (by omega) (by omega)
      obtain ⟨g0, e0, b0, N0⟩ := mr_pf (M.fr c1 (by omega)) 0 rfl 0
      obtain ⟨g1, e1, b1, N1⟩ := mr_pf N0 22 rfl 0
      have eg : g1 = gT g1 (upI (P 0) 0 0) (P 11) 0 := by
        refine Prod.ext (funext fun q => ?_) rfl
        by_cases c34 : q = 34
        · rw [c34, gT_34]
          exact N1.1
        · by_cases c45 : q = 45
          · rw [c45, gT_45]
            exact N1.2 11 (by omega) (by omega)
          · rw [gT_n c34 c45]
      have c2 : Ch 34 47 g1 (gT g1 (upI (P 0) 0 0) (pu (P 11) 0 l) l.length) := (Ch_up g1 _ (by omega) (by omega)).tr (Ch_up _ _ (by omega) (by omega))
      have N2 : Mr (gT g1 (upI (P 0) 0 0) (pu (P 11) 0 l) l.length) (upR (upR (th P) 11 (pu (P 11) 0 l)) 0 (upI (th P 0) 22 (l.length : Int))) := by
        refine ⟨gT_34, fun a a1 a2 => ?_⟩
        by_cases c11 : a = 11
        · rw [c11, gT_45]
          rfl
        · have y1 : upR (upR P 0 (upI (P 0) 0 0)) 0 (upI (upR P 0 (upI (P 0) 0 0) 0) 22 0) a = P a := by
            unfold upR
            rw [if_neg (by omega), if_neg (by omega)]
          have y2 : upR (upR (th P) 11 (pu (P 11) 0 l)) 0 (upI (th P 0) 22 (l.length : Int)) a = P a := by
            unfold upR
            rw [if_neg (by omega), if_neg c11]
            unfold th upR
            rw [if_neg (by omega)]
          rw [gT_n (by omega) (by omega), N1.2 a a1 a2, y1, y2]
      have hC : CR (hT h (pu (fun q => tc (q + 1)) 0 l) l.length) (upR (upR (th P) 11 (pu (P 11) 0 l)) 0 (upI (th P 0) 22 (l.length : Int))) := by
        obtain ⟨x1, x2, x3, x4, x5, x6, x7, x8, x9⟩ := C
        refine ⟨x1.fr c1 (by omega), x2.fr c1 (by omega), x3.fr c1 (by omega), x4.fr c1 (by omega), x5.fr c1 (by omega), x6.ch c1 (by omega) (by omega), x7.ch c1 (by omega) (by omega), x8.fr c1 (by omega) (by omega), tl (pu (fun q => tc (q + 1)) 0 l) l.length, hT_33, rfl, ?_, fun q hq => ?_⟩
        · show 0 ≤ (l.length : Int) ∧ (l.length : Int) ≤ 16
          omega
        · have hq : (q : Int) < (l.length : Int) := hq
          show pu (fun q => tc (q + 1)) 0 l q = pu (P 11) 0 l q
          exact pu_same l 0 _ _ (fun r hr => absurd hr (by omega)) q (by omega)
      refine ⟨zI val, hT h (pu (fun q => tc (q + 1)) 0 l) l.length, gT g1 (upI (P 0) 0 0) (pu (P 11) 0 l) l.length, _, ?_, ?_, J.fin (P1 := upR (upR (th P) 11 (pu (P 11) 0 l)) 0 (upI (th P 0) 22 (l.length : Int))) (Q := upR (upR (th P) 11 (pu (P 11) 0 l)) 0 (upI (th P 0) 22 (l.length : Int))) (c1.es (by omega) E) hC (D.fr c1 (by omega)) I (b0.tr (b1.tr c2)) N2 (Sp_0 _), Gr_2 c1 (b0.tr (b1.tr c2)) (by omega) (by omega)⟩
      · have B9 : (hT h (fun q => tc (q + 1)) 0).1 26 = bO (P 6) 26 := (hT_n (by decide)).trans B.1.1
        have C9 : CO (hT h (fun q => tc (q + 1)) 0) (P 6 0) (P 0 13) := (hT_n (by decide)).trans C.1
        unfold f_C_ask
        simp only [hw]
        rw [cg4 C.1, bd, b_on B.1.1, p1, bd, if_neg (by intro z; cases z), if_neg (show ¬ ¬ (0 ≤ d ∧ d < 2) from fun z => z cd), cg7 C.1, bd, ep, bd, cg7 C9, bd, cg4 C9, bd, (b_g B9).2.2.2.2.1, bd]
        rw [← eC]
        by_cases c0 : d = 0
        · rw [if_pos (xd.mpr c0), if_pos (xd.mpr c0)]
          exact bd_pair _
        · rw [if_neg (fun z => c0 (xd.mp z)), if_neg (fun z => c0 (xd.mp z)), bd, bd, (b_g B9).2.2.2.2.1, bd]
          exact bd_pair _
      · have A1 : g1.1 40 = aZ 42 (P 6) := N1.2 6 (by omega) (by omega)
        have hM := eM g1 (upI (P 0) 0 0) (P 11) A1
        rw [← eg] at hM
        have M1 : g1.1 34 = _ := N1.1
        have onM : ∀ x : Option (Int32 × MH), onc g1 (some 34) 11 x = x := fun x => onc_o M1
        unfold f_M_ask
        simp only [hin]
        rw [show (Value.int (0 : Int32)) = Value.int (zI 0) from rfl, e0, bd, mr_on N0, hi g0 N0, bd, if_pos ck, if_neg (by decide), if_neg (show ¬ ¬ (0 ≤ d ∧ d < 2) from fun z => z cd), e1, bd, onM, onM, ← hM]
        by_cases c0 : d = 0
        · rw [if_pos (xd.mpr c0), if_pos (xd.mpr c0)]
          exact bd_pair _
        · rw [if_neg (fun z => c0 (xd.mp z)), if_neg (fun z => c0 (xd.mp z))]
          exact bd_pair _
    have hsz : (sizL (P 6 (5 + k.toNat))).length ≤ 16 ∧ (marL (P 6 (5 + k.toNat))).length ≤ 16 := by
      generalize P 6 (5 + k.toNat) = s at s1 s2
      rcases (show s = 1 ∨ s = 2 ∨ s = 3 ∨ s = 4 ∨ s = 5 by omega) with rfl | rfl | rfl | rfl | rfl <;> decide
    have e5 : P 6 (5 + k).toNat = P 6 (5 + k.toNat) := by rw [show (5 + k).toNat = 5 + k.toNat by omega]
    have e9 : P 6 (9 + k).toNat = P 6 (9 + k.toNat) := by rw [show (9 + k).toNat = 9 + k.toNat by omega]
    by_cases c0 : d = 0
    · refine fin (sizL (P 6 (5 + k.toNat))) (sizV (P 6 (5 + k.toNat)) k (P 6 (9 + k.toNat)) (P 6 15)) hsz.1 (fun f => ?_) (fun g K f A => ?_)
      · rw [if_pos (xd.mpr c0)]
        exact c_siz p3 (by omega) s1 s2
      · rw [if_pos (xd.mpr c0), m_siz A ck.1 (by omega) e5 e9 rfl s1 s2 (by omega), Nat.zero_add]
    · refine fin (marL (P 6 (5 + k.toNat))) (marV (P 6 (5 + k.toNat)) k (P 6 (9 + k.toNat)) (P 6 15)) hsz.2 (fun f => ?_) (fun g K f A => ?_)
      · rw [if_neg (fun z => c0 (xd.mp z))]
        exact c_mar p3 (by omega) s1 s2
      · rw [if_neg (fun z => c0 (xd.mp z))]
        exact m_mar A ck.1 (by omega) e5 e9 rfl s1 s2
  · obtain ⟨g, e, c, X'⟩ := X.thr
    refine ⟨-1000001, h, g, th P, ?_, ?_, X', Gr_eq c (by omega)⟩
    · unfold f_C_ask
      simp only [hw]
      rw [cg4 C.1, bd, b_on B.1.1]
      rcases c_handAt B.1 W k1 k2 with ⟨c1, c2⟩ | ⟨c1, p, p1, p2, p3⟩
      · rw [c2, bd, if_pos rfl]
      · rw [p1, bd, if_neg (by intro z; cases z), if_pos (fun z => cb ⟨c1, z⟩)]
    · unfold f_M_ask
      simp only [hin]
      rw [e, bd, mr_on X'.2.1, hi g X'.2.1, bd]
      by_cases ck : 0 ≤ k ∧ k < P 6 4
      · rw [if_pos ck, if_neg (by decide), if_pos (fun z => cb ⟨ck, z⟩)]
      · rw [if_neg ck, if_pos rfl]
