/-! ===== the text, as a grammar ===== -/
abbrev PS := Except (Int × Int) ((Nat → Int) × Nat)
def Lt (tp : Nat → Int) (n : Int) (p : Nat) : Int := if (p : Int) < n then tp p else -1
def isF (c : Int) : Bool := decide (48 ≤ c ∧ c ≤ 57)
def dcN (L : Nat → Int) (p : Nat) : Nat := if isF (L p) then (if isF (L (p + 1)) then (if isF (L (p + 2)) then 3 else 2) else 1) else 0
def vlN (L : Nat → Int) (p : Nat) : Int := if dcN L p = 1 then L p - 48 else 10 * (L p - 48) + (L (p + 1) - 48)
def okN (L : Nat → Int) (lo hi : Int) (p : Nat) : Prop := (dcN L p = 1 ∨ dcN L p = 2) ∧ lo ≤ vlN L p ∧ vlN L p ≤ hi
def kdN (L : Nat → Int) (p : Nat) : Int := if dcN L p = 1 ∨ dcN L p = 2 then 2 else 1
def sL (L : Nat → Int) (c : Int) (S : PS) : PS := match S with
  | .ok (v, p) => if L p = c then .ok (v, p + 1) else .error (1, p)
  | .error e => .error e
noncomputable def sN (L : Nat → Int) (j : Nat) (lo hi : Int) (S : PS) : PS := match S with
  | .ok (v, p) => by classical exact (if okN L lo hi p then .ok (upI v j (vlN L p), p + dcN L p) else .error (kdN L p, p))
  | .error e => .error e
def sD (L : Nat → Int) (j : Nat) (S : PS) : PS := match S with
  | .ok (v, p) => if 97 ≤ L p ∧ L p ≤ 106 then .ok (upI v (18 + j) (L p - 97), p + 1) else .error (1, p)
  | .error e => .error e
theorem sN_ok {L : Nat → Int} {j p : Nat} {lo hi : Int} {v : Nat → Int} (h : okN L lo hi p) : sN L j lo hi (.ok (v, p)) = .ok (upI v j (vlN L p), p + dcN L p) := by
  unfold sN
  exact if_pos h
theorem sN_no {L : Nat → Int} {j p : Nat} {lo hi : Int} {v : Nat → Int} (h : ¬ okN L lo hi p) : sN L j lo hi (.ok (v, p)) = .error (kdN L p, p) := by
  unfold sN
  exact if_neg h
theorem sD_ok {L : Nat → Int} {j p : Nat} {v : Nat → Int} (h : 97 ≤ L p ∧ L p ≤ 106) : sD L j (.ok (v, p)) = .ok (upI v (18 + j) (L p - 97), p + 1) := if_pos h
theorem sD_no {L : Nat → Int} {j p : Nat} {v : Nat → Int} (h : ¬ (97 ≤ L p ∧ L p ≤ 106)) : sD L j (.ok (v, p)) = .error (1, p) := if_neg h
theorem dcN_le (L : Nat → Int) (p : Nat) : dcN L p ≤ 3 := by
  unfold dcN
  (repeat' split) <;> omega
theorem kdN_r (L : Nat → Int) (p : Nat) : 1 ≤ kdN L p ∧ kdN L p ≤ 2 := by
  unfold kdN
  split <;> omega
section
variable {tp : Nat → Int} {n : Int}
theorem Lt_r (ht : ∀ k : Nat, (k : Int) < n → 0 ≤ tp k ∧ tp k ≤ 255) (p : Nat) : -1 ≤ Lt tp n p ∧ Lt tp n p ≤ 255 ∧ (0 ≤ Lt tp n p → (p : Int) < n) := by
  unfold Lt
  by_cases c : (p : Int) < n
  · have := ht p c
    rw [if_pos c]
    omega
  · rw [if_neg c]
    omega
theorem isF_iff (c : Int) : isF c = true ↔ 48 ≤ c ∧ c ≤ 57 := by unfold isF; exact decide_eq_true_iff
theorem dcN_in (ht : ∀ k : Nat, (k : Int) < n → 0 ≤ tp k ∧ tp k ≤ 255) (p : Nat) (h1 : 1 ≤ dcN (Lt tp n) p) : (p : Int) + dcN (Lt tp n) p ≤ n := by
  have a0 := Lt_r ht p
  have a1 := Lt_r ht (p + 1)
  have a2 := Lt_r ht (p + 2)
  unfold dcN at h1 ⊢
  by_cases c0 : isF (Lt tp n p) = true
  · have d0 := (isF_iff _).mp c0
    rw [if_pos c0] at h1 ⊢
    by_cases c1 : isF (Lt tp n (p + 1)) = true
    · have d1 := (isF_iff _).mp c1
      rw [if_pos c1] at h1 ⊢
      by_cases c2 : isF (Lt tp n (p + 2)) = true
      · have d2 := (isF_iff _).mp c2
        rw [if_pos c2]
        omega
      · rw [if_neg c2]
        omega
    · rw [if_neg c1]
      omega
  · rw [if_neg c0] at h1
    omega
theorem vlN_r (ht : ∀ k : Nat, (k : Int) < n → 0 ≤ tp k ∧ tp k ≤ 255) (p : Nat) : -1000 ≤ vlN (Lt tp n) p ∧ vlN (Lt tp n) p ≤ 3000 := by
  have a0 := Lt_r ht p
  have a1 := Lt_r ht (p + 1)
  unfold vlN
  split <;> omega
end
/-! the class reads -/
def TP (h : MH) (tp : Nat → Int) (n pl fa fp lf : Int) : Prop := h.1 8 = oB 9 (tF n pl fa fp lf) ∧ h.1 9 = aZ 120 tp
section
variable {h : MH} {tp : Nat → Int} {n pl fa fp lf : Int}
theorem t_on (X : TP h tp n pl fa fp lf) {α : Type} (x : Option α) : onc h (some 8) 9 x = x := onc_o X.1
theorem t_g (X : TP h tp n pl fa fp lf) : gfi h (some 8) [9] 2 = some (zI pl) ∧ gfi h (some 8) [9] 3 = some (zI fa) := ⟨gfi_o X.1 rfl rfl, gfi_o X.1 rfl rfl⟩
theorem t_up (X : TP h tp n pl fa fp lf) (n' pl' fa' fp' lf' : Int) : Ch 8 8 h (mj_up h 8 (oB 9 (tF n' pl' fa' fp' lf'))) ∧ TP (mj_up h 8 (oB 9 (tF n' pl' fa' fp' lf'))) tp n' pl' fa' fp' lf' := ⟨Ch_up h _ (by omega) (by omega), by rw [TP, up_get, if_pos rfl]; exact ⟨rfl, by rw [up_get, if_neg (by decide)]; exact X.2⟩⟩
theorem t_p2 (X : TP h tp n pl fa fp lf) (x : Int) : ∃ h', pfv h (some 8) [9] 2 (.int (zI x)) = some h' ∧ Ch 8 8 h h' ∧ TP h' tp n x fa fp lf := ⟨_, by rw [pfv_o X.1 (by show 2 < 6; omega) rfl]; rfl, (t_up X n x fa fp lf).1, (t_up X n x fa fp lf).2⟩
theorem t_p3 (X : TP h tp n pl fa fp lf) (x : Int) : ∃ h', pfv h (some 8) [9] 3 (.int (zI x)) = some h' ∧ Ch 8 8 h h' ∧ TP h' tp n pl x fp lf := ⟨_, by rw [pfv_o X.1 (by show 3 < 6; omega) rfl]; rfl, (t_up X n pl x fp lf).1, (t_up X n pl x fp lf).2⟩
theorem t_p4 (X : TP h tp n pl fa fp lf) (x : Int) : ∃ h', pfv h (some 8) [9] 4 (.int (zI x)) = some h' ∧ Ch 8 8 h h' ∧ TP h' tp n pl fa x lf := ⟨_, by rw [pfv_o X.1 (by show 4 < 6; omega) rfl]; rfl, (t_up X n pl fa x lf).1, (t_up X n pl fa x lf).2⟩
theorem t_p5 (X : TP h tp n pl fa fp lf) (x : Int) : ∃ h', pfv h (some 8) [9] 5 (.int (zI x)) = some h' ∧ Ch 8 8 h h' ∧ TP h' tp n pl fa fp x := ⟨_, by rw [pfv_o X.1 (by show 5 < 6; omega) rfl]; rfl, (t_up X n pl fa fp x).1, (t_up X n pl fa fp x).2⟩
theorem t_p1 (X : TP h tp n pl fa fp lf) (x : Int) : ∃ h', pfv h (some 8) [9] 1 (.int (zI x)) = some h' ∧ Ch 8 8 h h' ∧ TP h' tp x pl fa fp lf := ⟨_, by rw [pfv_o X.1 (by show 1 < 6; omega) rfl]; rfl, (t_up X x pl fa fp lf).1, (t_up X x pl fa fp lf).2⟩
theorem t_la (X : TP h tp n pl fa fp lf) (hn : 0 ≤ n ∧ n ≤ 120) {p : Nat} (hp : p < 1000) : f_T_letterAt (some 8) (zI (p : Int)) h = some (zI (Lt tp n p)) := by
  have x0 : zI (p : Int) < (0 : Int32) ↔ (p : Int) < 0 := zI_lt (b := 0) (by omega) (by omega) (by omega) (by omega)
  have x1 : zI n ≤ zI (p : Int) ↔ n ≤ (p : Int) := zI_le (by omega) (by omega) (by omega) (by omega)
  have g1 : gfi h (some 8) [9] 1 = some (zI n) := gfi_o X.1 rfl rfl
  have g0 : gfr h (some 8) [9] 0 = some (some 9) := gfr_o X.1 rfl rfl
  unfold f_T_letterAt Lt
  simp only [x0]
  rw [if_neg (by omega), g1, bd]
  simp only [x1]
  by_cases c : n ≤ (p : Int)
  · rw [if_pos c, if_neg (by omega)]
    rfl
  · rw [if_neg c, if_pos (by omega), g0, bd, s_at_in X.2 (by omega) (by omega) (by omega)]
    rfl
theorem t_fail0 (X : TP h tp n pl 0 fp lf) (k q : Int) : ∃ h', f_T_fail (some 8) (zI k) (zI q) h = some h' ∧ Ch 8 8 h h' ∧ TP h' tp n pl k q k := by
  obtain ⟨h1, e1, c1, X1⟩ := t_p3 X k
  obtain ⟨h2, e2, c2, X2⟩ := t_p4 X1 q
  obtain ⟨h3, e3, c3, X3⟩ := t_p5 X2 k
  refine ⟨h3, ?_, c1.tr (c2.tr c3), X3⟩
  unfold f_T_fail
  rw [(t_g X).2, bd, if_pos (show zI 0 = (0 : Int32) from rfl), e1, bd, e2, bd, e3]
  rfl
theorem t_fail1 (X : TP h tp n pl fa fp lf) (h1 : 1 ≤ fa ∧ fa ≤ 3) (k q : Int32) : f_T_fail (some 8) k q h = some h := by
  have x0 : zI fa = (0 : Int32) ↔ fa = 0 := zI_eq (b := 0) (by omega) (by omega) (by omega) (by omega)
  unfold f_T_fail
  rw [(t_g X).2, bd]
  simp only [x0]
  rw [if_neg (by omega)]
end
/-- how it stands with the tape, by the grammar -/
def FS (lf0 : Int) (S : PS) (pl fa fp lf : Int) : Prop := match S with
  | .ok (_, p) => pl = p ∧ fa = 0 ∧ lf = lf0
  | .error e => fa = e.1 ∧ fp = e.2 ∧ lf = e.1 ∧ (1 ≤ e.1 ∧ e.1 ≤ 3) ∧ (0 ≤ e.2 ∧ e.2 ≤ 120)
def TS (h : MH) (tp : Nat → Int) (n lf0 : Int) (S : PS) : Prop := ∃ (pl : Nat) (fa fp lf : Int), TP h tp n pl fa fp lf ∧ (pl : Int) ≤ n ∧ FS lf0 S pl fa fp lf
section
variable {h : MH} {tp : Nat → Int} {n lf0 : Int} {S : PS} {F : Nat}
theorem TS.on (X : TS h tp n lf0 S) {α : Type} (x : Option α) : onc h (some 8) 9 x = x := by
  obtain ⟨pl, fa, fp, lf, X, -⟩ := X
  exact t_on X x
theorem TS.fr {lo hi : Nat} {h' : MH} (X : TS h tp n lf0 S) (c : Ch lo hi h h') (hh : hi < 8 ∨ 9 < lo) : TS h' tp n lf0 S := by
  obtain ⟨pl, fa, fp, lf, X, b, f⟩ := X
  exact ⟨pl, fa, fp, lf, ⟨(c.2 _ (by omega)).trans X.1, (c.2 _ (by omega)).trans X.2⟩, b, f⟩
theorem TS.place {v : Nat → Int} {p : Nat} (X : TS h tp n lf0 (.ok (v, p))) : ∃ fp, TP h tp n p 0 fp lf0 ∧ (p : Int) ≤ n := by
  obtain ⟨pl, fa, fp, lf, X, b, ⟨f1, f2, f3⟩⟩ := X
  have : pl = p := by omega
  subst this f2 f3
  exact ⟨fp, X, b⟩
theorem TS.mk {v : Nat → Int} {p : Nat} {fp : Int} (X : TP h tp n p 0 fp lf0) (b : (p : Int) ≤ n) : TS h tp n lf0 (.ok (v, p)) := ⟨p, 0, fp, lf0, X, b, rfl, rfl, rfl⟩
theorem TS.mkE {p : Nat} {k q : Int} (X : TP h tp n p k q k) (b : (p : Int) ≤ n) (hk : 1 ≤ k ∧ k ≤ 3) (hq : 0 ≤ q ∧ q ≤ 120) : TS h tp n lf0 (.error (k, q)) := ⟨p, k, q, k, X, b, rfl, rfl, rfl, hk, hq⟩
theorem TS.err {e : Int × Int} (X : TS h tp n lf0 (.error e)) : ∃ p : Nat, TP h tp n p e.1 e.2 e.1 ∧ (p : Int) ≤ n ∧ (1 ≤ e.1 ∧ e.1 ≤ 3) ∧ (0 ≤ e.2 ∧ e.2 ≤ 120) := by
  obtain ⟨pl, fa, fp, lf, X, b, ⟨f1, f2, f3, f4, f5⟩⟩ := X
  subst f1 f2 f3
  exact ⟨pl, X, b, f4, f5⟩
theorem c_let (hn : 0 ≤ n ∧ n ≤ 120) (ht : ∀ k : Nat, (k : Int) < n → 0 ≤ tp k ∧ tp k ≤ 255) {c : Int} (hc : 0 ≤ c ∧ c ≤ 255) (X : TS h tp n lf0 S) : ∃ h', f_T_readLetter (some 8) (zI c) h = some h' ∧ Ch 8 8 h h' ∧ TS h' tp n lf0 (sL (Lt tp n) c S) := by
  cases S with
  | ok vp =>
    obtain ⟨v, p⟩ := vp
    obtain ⟨fp, X, b⟩ := X.place
    have hl := Lt_r ht p
    have xc : zI (Lt tp n p) = zI c ↔ Lt tp n p = c := zI_eq (by omega) (by omega) (by omega) (by omega)
    unfold f_T_readLetter sL
    rw [(t_g X).1, (t_g X).2, bd, t_on X, t_la X hn (by omega), bd]
    simp only [xc]
    by_cases e : Lt tp n p = c
    · obtain ⟨h1, e1, c1, X1⟩ := t_p2 X (p + 1)
      refine ⟨h1, ?_, c1, ?_⟩
      · rw [if_pos e, bd, if_pos (show zI 0 = (0 : Int32) from rfl), bd, l1, zI_add, e1]
        rfl
      · rw [if_pos e]
        have := hl.2.2 (by omega)
        exact TS.mk X1 (by omega)
    · obtain ⟨h1, e1, c1, X1⟩ := t_fail0 X 1 p
      refine ⟨h1, ?_, c1, ?_⟩
      · rw [if_neg e, bd, t_on X, l1, e1]
        rfl
      · rw [if_neg e]
        exact TS.mkE X1 b (by omega) (by omega)
  | error e =>
    obtain ⟨p, X', b, e1, e2⟩ := X.err
    have x0 : zI e.1 = (0 : Int32) ↔ e.1 = 0 := zI_eq (b := 0) (by omega) (by omega) (by omega) (by omega)
    refine ⟨h, ?_, Ch_0 _ _ h, X⟩
    unfold f_T_readLetter
    rw [(t_g X').1, (t_g X').2, bd, t_on X', t_la X' hn (by omega), bd]
    simp only [bd, x0]
    rw [if_neg (show ¬ e.1 = 0 by omega), t_on X', t_fail1 X' e1]
    split <;> rfl
theorem t_isF {c : Int} (hc : -1 ≤ c ∧ c ≤ 255) : f_T_isFigure (zI c) = 0 ↔ ¬ isF c = true := by
  have x1 : zI c < (48 : Int32) ↔ c < 48 := zI_lt (b := 48) (by omega) (by omega) (by omega) (by omega)
  have x2 : (57 : Int32) < zI c ↔ 57 < c := zI_lt (a := 57) (by omega) (by omega) (by omega) (by omega)
  unfold f_T_isFigure
  rw [isF_iff]
  simp only [x1, x2]
  by_cases c1 : c < 48
  · rw [if_pos c1]
    exact ⟨fun _ => by omega, fun _ => rfl⟩
  · rw [if_neg c1]
    by_cases c2 : 57 < c
    · rw [if_pos c2]
      exact ⟨fun _ => by omega, fun _ => rfl⟩
    · rw [if_neg c2]
      exact ⟨fun z => absurd z (by decide), fun z => absurd (show 48 ≤ c ∧ c ≤ 57 by omega) z⟩
theorem t_num11 (hn : 0 ≤ n ∧ n ≤ 120) (ht : ∀ k : Nat, (k : Int) < n → 0 ≤ tp k ∧ tp k ≤ 255) {p i a : Nat} {fa fp lf y : Int} (X : TP h tp n p fa fp lf) (hp : (p : Int) ≤ n) (hi : i ≤ p + 3) {lo hi' : Int32} {fu : Nat} : b_T_readNumber_11 F (fu + 1) (some 8) lo hi' (zI (a : Int)) (zI y) (zI (i : Int)) h = if p + 3 ≤ i then b_T_readNumber_60 F (some 8) lo hi' (zI (a : Int)) (zI y) h else if isF (Lt tp n i) = true then b_T_readNumber_11 F fu (some 8) lo hi' (zI ((a + 1 : Nat) : Int)) (zI (10 * y + Lt tp n i - 48)) (zI ((i + 1 : Nat) : Int)) h else b_T_readNumber_60 F (some 8) lo hi' (zI (a : Int)) (zI y) h := by
  have hl := Lt_r ht i
  have x3 : zI ((p : Int) + 3) ≤ zI (i : Int) ↔ p + 3 ≤ i := by
    rw [zI_le (by omega) (by omega) (by omega) (by omega)]
    omega
  have xf := t_isF (c := Lt tp n i) (by omega)
  conv => lhs; unfold b_T_readNumber_11
  rw [(t_g X).1, bd, l3, zI_add, t_on X, t_la X hn (by omega), bd]
  simp only [x3, xf]
  by_cases c : p + 3 ≤ i
  · rw [if_pos c, if_pos c]
  · rw [if_neg c, if_neg c]
    by_cases c2 : isF (Lt tp n i) = true
    · rw [if_neg (fun z => z c2), if_pos c2, bd, l1, zI_add, zI_add, l10, zI_mul, zI_add, show (48 : Int32) = zI 48 from rfl, zI_sub]
      rfl
    · rw [if_pos c2, if_neg c2]
theorem t_num (hF : 100 ≤ F) (hn : 0 ≤ n ∧ n ≤ 120) (ht : ∀ k : Nat, (k : Int) < n → 0 ≤ tp k ∧ tp k ≤ 255) {p : Nat} {fa fp lf lo hi : Int} (hlo : 0 ≤ lo ∧ lo ≤ 100) (hhi : 0 ≤ hi ∧ hi ≤ 100) (X : TP h tp n p fa fp lf) (hp : (p : Int) ≤ n) : (okN (Lt tp n) lo hi p → ∃ h', f_T_readNumber F (some 8) (zI lo) (zI hi) h = some (zI (vlN (Lt tp n) p), h') ∧ Ch 8 8 h h' ∧ TP h' tp n ((p + dcN (Lt tp n) p : Nat) : Int) fa fp lf) ∧ (¬ okN (Lt tp n) lo hi p → f_T_readNumber F (some 8) (zI lo) (zI hi) h = Option.bind (f_T_fail (some 8) (zI (kdN (Lt tp n) p)) (zI (p : Int)) h) fun h3 => some (zI lo, h3)) := by
  obtain ⟨fu, rfl⟩ : ∃ q, F = q + 4 := ⟨F - 4, by omega⟩
  have a0 := Lt_r ht p
  have a1 := Lt_r ht (p + 1)
  have hvr := vlN_r ht p
  -- behind the figures
  have e69 : b_T_readNumber_69 (fu + 4) (some 8) (zI lo) h = Option.bind (f_T_fail (some 8) (zI 1) (zI (p : Int)) h) fun h3 => some (zI lo, h3) := by
    unfold b_T_readNumber_69
    rw [(t_g X).1, bd, t_on X]
    rfl
  have e92 : b_T_readNumber_92 (fu + 4) (some 8) (zI lo) h = Option.bind (f_T_fail (some 8) (zI 2) (zI (p : Int)) h) fun h3 => some (zI lo, h3) := by
    unfold b_T_readNumber_92
    rw [(t_g X).1, bd, t_on X]
    rfl
  have e60 : ∀ a : Nat, (a = 1 ∨ a = 2) → ∀ y : Int, y = vlN (Lt tp n) p → a = dcN (Lt tp n) p → (okN (Lt tp n) lo hi p → ∃ h', b_T_readNumber_60 (fu + 4) (some 8) (zI lo) (zI hi) (zI (a : Int)) (zI y) h = some (zI (vlN (Lt tp n) p), h') ∧ Ch 8 8 h h' ∧ TP h' tp n ((p + dcN (Lt tp n) p : Nat) : Int) fa fp lf) ∧ (¬ okN (Lt tp n) lo hi p → b_T_readNumber_60 (fu + 4) (some 8) (zI lo) (zI hi) (zI (a : Int)) (zI y) h = Option.bind (f_T_fail (some 8) (zI (kdN (Lt tp n) p)) (zI (p : Int)) h) fun h3 => some (zI lo, h3)) := by
    intro a ha y hy hd
    subst hy
    have z0 : zI (a : Int) = (0 : Int32) ↔ (a : Int) = 0 := zI_eq (b := 0) (by omega) (by omega) (by omega) (by omega)
    have z2 : zI (a : Int) ≤ (2 : Int32) ↔ (a : Int) ≤ 2 := zI_le (b := 2) (by omega) (by omega) (by omega) (by omega)
    have zl : zI (vlN (Lt tp n) p) < zI lo ↔ vlN (Lt tp n) p < lo := zI_lt (by omega) (by omega) (by omega) (by omega)
    have zh : zI (vlN (Lt tp n) p) ≤ zI hi ↔ vlN (Lt tp n) p ≤ hi := zI_le (by omega) (by omega) (by omega) (by omega)
    have hk : kdN (Lt tp n) p = 2 := by
      unfold kdN
      rw [if_pos (by omega)]
    unfold b_T_readNumber_60
    simp only [z0, z2, zl, zh]
    rw [if_neg (by omega), if_pos (by omega), e92, hk]
    constructor
    · intro ok
      obtain ⟨h1, e1, c1, X1⟩ := t_p2 X ((p + dcN (Lt tp n) p : Nat) : Int)
      refine ⟨h1, ?_, c1, X1⟩
      have := ok.2
      rw [if_neg (by omega), if_pos (by omega), (t_g X).1, bd, zI_add, hd, show (p : Int) + ((dcN (Lt tp n) p : Nat) : Int) = ((p + dcN (Lt tp n) p : Nat) : Int) by omega, e1]
      rfl
    · intro no
      by_cases c1 : vlN (Lt tp n) p < lo
      · rw [if_pos c1]
      · rw [if_neg c1]
        by_cases c2 : vlN (Lt tp n) p ≤ hi
        · exact absurd ⟨by omega, by omega, c2⟩ no
        · rw [if_neg c2]
  have e60b : ∀ (a : Nat), (a = 0 ∨ a = 3) → a = dcN (Lt tp n) p → ∀ y, (okN (Lt tp n) lo hi p → ∃ h', b_T_readNumber_60 (fu + 4) (some 8) (zI lo) (zI hi) (zI (a : Int)) (zI y) h = some (zI (vlN (Lt tp n) p), h') ∧ Ch 8 8 h h' ∧ TP h' tp n ((p + dcN (Lt tp n) p : Nat) : Int) fa fp lf) ∧ (¬ okN (Lt tp n) lo hi p → b_T_readNumber_60 (fu + 4) (some 8) (zI lo) (zI hi) (zI (a : Int)) (zI y) h = Option.bind (f_T_fail (some 8) (zI (kdN (Lt tp n) p)) (zI (p : Int)) h) fun h3 => some (zI lo, h3)) := by
    intro a ha hd y
    have hk : kdN (Lt tp n) p = 1 := by
      unfold kdN
      rw [if_neg (by omega)]
    refine ⟨fun ok => absurd ok.1 (by omega), fun _ => ?_⟩
    unfold b_T_readNumber_60
    rw [hk]
    rcases ha with rfl | rfl
    · rw [if_pos (show zI ((0 : Nat) : Int) = (0 : Int32) from rfl), e69]
    · rw [if_neg (by decide), if_neg (by decide), e69]
  have st := fun (i a : Nat) (y : Int) (q : Nat) (hi' : i ≤ p + 3) => t_num11 (F := fu + 4) hn ht (i := i) (a := a) (y := y) X hp hi' (lo := zI lo) (hi' := zI hi) (fu := q)
  unfold f_T_readNumber
  rw [(t_g X).1, bd, show b_T_readNumber_11 (fu + 4) (fu + 4) (some 8) (zI lo) (zI hi) (0 : Int32) (0 : Int32) (zI (p : Int)) h = b_T_readNumber_11 (fu + 4) (fu + 3 + 1) (some 8) (zI lo) (zI hi) (zI ((0 : Nat) : Int)) (zI 0) (zI (p : Int)) h from rfl, st p 0 0 (fu + 3) (by omega), if_neg (by omega)]
  by_cases c0 : isF (Lt tp n p) = true
  · rw [if_pos c0, st (p + 1) (0 + 1) _ (fu + 2) (by omega), if_neg (by omega)]
    by_cases c1 : isF (Lt tp n (p + 1)) = true
    · rw [if_pos c1, st (p + 1 + 1) (0 + 1 + 1) _ (fu + 1) (by omega), if_neg (by omega)]
      by_cases c2 : isF (Lt tp n (p + 1 + 1)) = true
      · rw [if_pos c2, st (p + 1 + 1 + 1) (0 + 1 + 1 + 1) _ fu (by omega), if_pos (by omega)]
        exact e60b (0 + 1 + 1 + 1) (by omega) (by unfold dcN; rw [if_pos c0, if_pos c1, if_pos c2]) _
      · rw [if_neg c2]
        have hd : dcN (Lt tp n) p = 2 := by unfold dcN; rw [if_pos c0, if_pos c1, if_neg c2]
        exact e60 (0 + 1 + 1) (by omega) _ (by unfold vlN; rw [hd, if_neg (by omega)]; omega) (by omega)
    · rw [if_neg c1]
      have hd : dcN (Lt tp n) p = 1 := by unfold dcN; rw [if_pos c0, if_neg c1]
      exact e60 (0 + 1) (by omega) _ (by unfold vlN; rw [hd, if_pos rfl]; omega) (by omega)
  · rw [if_neg c0]
    exact e60b 0 (by omega) (by unfold dcN; rw [if_neg c0]) _
theorem c_num (hF : 100 ≤ F) (hn : 0 ≤ n ∧ n ≤ 120) (ht : ∀ k : Nat, (k : Int) < n → 0 ≤ tp k ∧ tp k ≤ 255) {lo hi : Int} (hlo : 0 ≤ lo ∧ lo ≤ hi) (hhi : hi ≤ 100) (j : Nat) (X : TS h tp n lf0 S) : ∃ x h', f_T_readNumber F (some 8) (zI lo) (zI hi) h = some (zI x, h') ∧ Ch 8 8 h h' ∧ TS h' tp n lf0 (sN (Lt tp n) j lo hi S) ∧ (lo ≤ x ∧ x ≤ hi) ∧ ∀ v p v' p', S = .ok (v, p) → sN (Lt tp n) j lo hi S = .ok (v', p') → v' = upI v j x := by
  cases S with
  | ok vp =>
    obtain ⟨v, p⟩ := vp
    obtain ⟨fp, X, b⟩ := X.place
    obtain ⟨q1, q2⟩ := t_num hF hn ht (lo := lo) (hi := hi) (by omega) (by omega) X b
    by_cases ok : okN (Lt tp n) lo hi p
    · obtain ⟨h1, e1, c1, X1⟩ := q1 ok
      refine ⟨vlN (Lt tp n) p, h1, e1, c1, ?_, ok.2, ?_⟩
      · rw [sN_ok ok]
        have := dcN_in ht p (by rcases ok.1 with z | z <;> omega)
        exact TS.mk X1 (by omega)
      · intro v0 p0 v' p' z1 z2
        rw [sN_ok ok] at z2
        cases z1
        cases z2
        rfl
    · obtain ⟨h1, e1, c1, X1⟩ := t_fail0 X (kdN (Lt tp n) p) p
      have hk := kdN_r (Lt tp n) p
      refine ⟨lo, h1, ?_, c1, ?_, by omega, ?_⟩
      · rw [q2 ok, e1]
        rfl
      · rw [sN_no ok]
        exact TS.mkE X1 b (by omega) (by omega)
      · intro v0 p0 v' p' z1 z2
        rw [sN_no ok] at z2
        cases z2
  | error e =>
    obtain ⟨p, X', b, e1, e2⟩ := X.err
    obtain ⟨q1, q2⟩ := t_num hF hn ht (lo := lo) (hi := hi) (by omega) (by omega) X' b
    by_cases ok : okN (Lt tp n) lo hi p
    · obtain ⟨h1, e3, c1, X1⟩ := q1 ok
      have := dcN_in ht p (by rcases ok.1 with z | z <;> omega)
      exact ⟨vlN (Lt tp n) p, h1, e3, c1, TS.mkE X1 (by omega) e1 e2, ok.2, fun v0 p0 v' p' z1 z2 => by cases z1⟩
    · refine ⟨lo, h, ?_, Ch_0 _ _ h, X, by omega, fun v0 p0 v' p' z1 z2 => by cases z1⟩
      rw [q2 ok, t_fail1 X' e1]
      rfl
theorem c_dep (hn : 0 ≤ n ∧ n ≤ 120) (ht : ∀ k : Nat, (k : Int) < n → 0 ≤ tp k ∧ tp k ≤ 255) (j : Nat) (X : TS h tp n lf0 S) : ∃ x h', f_T_readDepth (some 8) h = some (zI x, h') ∧ Ch 8 8 h h' ∧ TS h' tp n lf0 (sD (Lt tp n) j S) ∧ (0 ≤ x ∧ x ≤ 9) ∧ ∀ v p v' p', S = .ok (v, p) → sD (Lt tp n) j S = .ok (v', p') → v' = upI v (18 + j) x := by
  have main : ∀ (p : Nat) (fa fp lf : Int), TP h tp n p fa fp lf → (p : Int) ≤ n → f_T_readDepth (some 8) h = if 97 ≤ Lt tp n p ∧ Lt tp n p ≤ 106 then (Option.bind (pfv h (some 8) [9] 2 (.int (zI (p + 1)))) fun h9 => some (zI (Lt tp n p - 97), h9)) else (Option.bind (f_T_fail (some 8) (zI 1) (zI (p : Int)) h) fun h3 => some (zI 0, h3)) := by
    intro p fa fp lf X b
    have hl := Lt_r ht p
    have x0 : zI (Lt tp n p - 97) < (0 : Int32) ↔ Lt tp n p - 97 < 0 := zI_lt (b := 0) (by omega) (by omega) (by omega) (by omega)
    have x9 : zI (Lt tp n p - 97) ≤ (9 : Int32) ↔ Lt tp n p - 97 ≤ 9 := zI_le (b := 9) (by omega) (by omega) (by omega) (by omega)
    have e22 : b_T_readDepth_22 (some 8) h = Option.bind (f_T_fail (some 8) (zI 1) (zI (p : Int)) h) fun h3 => some (zI 0, h3) := by
      unfold b_T_readDepth_22
      rw [(t_g X).1, bd, t_on X]
      rfl
    unfold f_T_readDepth
    rw [(t_g X).1, bd, t_on X, t_la X hn (by omega), bd, show (97 : Int32) = zI 97 from rfl, zI_sub, e22, bd, l1, zI_add]
    simp only [x0, x9]
    by_cases c1 : Lt tp n p - 97 < 0
    · rw [if_pos c1, if_neg (by omega)]
    · rw [if_neg c1]
      by_cases c2 : Lt tp n p - 97 ≤ 9
      · rw [if_pos c2, if_pos (by omega)]
      · rw [if_neg c2, if_neg (by omega)]
  cases S with
  | ok vp =>
    obtain ⟨v, p⟩ := vp
    obtain ⟨fp, X, b⟩ := X.place
    have hl := Lt_r ht p
    have hm := main p 0 fp lf0 X b
    by_cases ok : 97 ≤ Lt tp n p ∧ Lt tp n p ≤ 106
    · obtain ⟨h1, e1, c1, X1⟩ := t_p2 X (p + 1)
      have := hl.2.2 (by omega)
      refine ⟨Lt tp n p - 97, h1, ?_, c1, ?_, by omega, ?_⟩
      · rw [hm, if_pos ok, e1]
        rfl
      · rw [sD_ok ok]
        exact TS.mk X1 (by omega)
      · intro v0 p0 v' p' z1 z2
        rw [sD_ok ok] at z2
        cases z1
        cases z2
        rfl
    · obtain ⟨h1, e1, c1, X1⟩ := t_fail0 X 1 p
      refine ⟨0, h1, ?_, c1, ?_, by omega, ?_⟩
      · rw [hm, if_neg ok, e1]
        rfl
      · rw [sD_no ok]
        exact TS.mkE X1 b (by omega) (by omega)
      · intro v0 p0 v' p' z1 z2
        rw [sD_no ok] at z2
        cases z2
  | error e =>
    obtain ⟨p, X', b, e1, e2⟩ := X.err
    have hl := Lt_r ht p
    have hm := main p _ _ _ X' b
    by_cases ok : 97 ≤ Lt tp n p ∧ Lt tp n p ≤ 106
    · obtain ⟨h1, e3, c1, X1⟩ := t_p2 X' (p + 1)
      have := hl.2.2 (by omega)
      refine ⟨Lt tp n p - 97, h1, ?_, c1, TS.mkE (p := p + 1) X1 (by omega) e1 e2, by omega, fun v0 p0 v' p' z1 z2 => by cases z1⟩
      rw [hm, if_pos ok, e3]
      rfl
    · refine ⟨0, h, ?_, Ch_0 _ _ h, X, by omega, fun v0 p0 v' p' z1 z2 => by cases z1⟩
      rw [hm, if_neg ok, t_fail1 X' e1]
      rfl
end
