/-! ===== class and reference side by side ===== -/
def RR (la' le' it' la le it : Nat → Int) : Prop := ∀ r : Nat, r < 8 → la r = la' r + 1 ∧ (-1 ≤ la' r ∧ la' r ≤ 2) ∧ (0 ≤ le' r ∧ le' r ≤ 40) ∧ (0 ≤ le r ∧ le r ≤ 40) ∧ (la' r ≠ -1 → le' r = le r ∧ ∀ k : Nat, (k : Int) < le r → it' (40 * r + k) = it (40 * r + k)) ∧ (la' r = -1 → le' r = 0)
def RO (h : MH) (la le it : Nat → Int) : Prop := ∃ la' le' it' : Nat → Int, h.1 4 = oB 5 [.ref 5, .ref 6, .ref 7] ∧ h.1 5 = aZ 320 it' ∧ h.1 6 = aZ 8 la' ∧ h.1 7 = aZ 8 le' ∧ RR la' le' it' la le it
def tF (n pl fa fp lf : Int) : List Value := [.ref 9, .int (zI n), .int (zI pl), .int (zI fa), .int (zI fp), .int (zI lf)]
def TO (h : MH) (tp : Nat → Int) (n lf : Int) : Prop := ∃ pl fa fp : Int, h.1 8 = oB 9 (tF n pl fa fp lf) ∧ h.1 9 = aZ 120 tp
/-- the acts kept, and images: 42 numbers each -/
def aE (ac : Nat → Int) (j : Nat) : Nat → Int := fun k => if k < 42 then ac (42 * j + k) else 0
def lb (L : Int) (c : Nat) : Int := ((zI L >>> (zI (c : Int) &&& 31)) &&& 1).toInt
/-- what is so besides of a basin's numbers -/
def Wk (v : Nat → Int) : Prop := v 17 ≤ 999 ∧ onN (v 13).toNat ≤ 4
def AR (A : Nat → Nat → Int) (nx : Int) (v ac : Nat → Int) (n : Int) : Prop := ∀ j : Nat, (j : Int) < n →
  (Wv (aE ac j) ∧ Wk (aE ac j)) ∧ (∀ k : Nat, k ≤ 12 → aE ac j k = v k) ∧
  (A 0 ((nx + 24 - n + j) % 24).toNat = aE ac j 14 ∧ A 1 ((nx + 24 - n + j) % 24).toNat = aE ac j 15 ∧ A 2 ((nx + 24 - n + j) % 24).toNat = aE ac j 16 ∧ A 3 ((nx + 24 - n + j) % 24).toNat = aE ac j 17 ∧ A 4 ((nx + 24 - n + j) % 24).toNat = aE ac j 13) ∧
  ∀ c : Nat, c < 24 → aE ac j (18 + c) = (if (j : Int) + 1 = n then v (18 + c) else aE ac (j + 1) (18 + c)) + lb (A 5 ((nx + 24 - n + j) % 24).toNat) c
def acF (nx n : Int) : List Value := [.ref 11, .ref 12, .ref 13, .ref 14, .ref 15, .ref 16, .int (zI nx), .int (zI n)]
def AO (h : MH) (v ac : Nat → Int) (n : Int) : Prop := ∃ (A : Nat → Nat → Int) (nx : Int), h.1 10 = oB 0 (acF nx n) ∧ (∀ a, a < 6 → h.1 (11 + a) = aZ 24 (A a)) ∧ (0 ≤ nx ∧ nx < 24) ∧ (0 ≤ n ∧ n ≤ 24) ∧ AR A nx v ac n
def SO (h : MH) : Prop := ∃ R, Sr h R
def IM (h : MH) (im kp : Nat → Int) : Prop := ∃ gi : Nat → Option Nat, h.1 32 = .inr (.inl (3, 2, gi)) ∧ (∀ k : Nat, k < 2 → (kp k = 0 ∧ gi k = none) ∨ (kp k = 1 ∧ ∃ p, gi k = some p ∧ 48 ≤ p ∧ Bx h p (aE im k) ∧ Wv (aE im k) ∧ Wk (aE im k) ∧ aE im k 0 = 1)) ∧ ∀ p, gi 0 = some p → gi 1 = some p → False
def TC (h : MH) (tr : Nat → Int) (n : Int) : Prop := ∃ tc : Nat → Int, h.1 33 = aZ 17 tc ∧ tc 0 = n ∧ (0 ≤ n ∧ n ≤ 16) ∧ ∀ k : Nat, (k : Int) < n → tc (k + 1) = tr k
def CR (h : MH) (P : Nat → Nat → Int) : Prop := CO h (P 6 0) (P 0 13) ∧ RO h (P 2) (P 3) (P 4) ∧ TO h (P 1) (P 0 2) (P 0 9) ∧ AO h (P 6) (P 8) (P 0 18) ∧ SO h ∧ Bx h 26 (P 6) ∧ Tb h 29 ∧ IM h (P 9) (P 10) ∧ TC h (P 11) (P 0 22)
def Dn (h : MH) : Prop := 48 ≤ h.2.1 ∧ ∀ p, h.2.1 ≤ p → h.1 p = mj_nil
def Iw (P : Nat → Nat → Int) : Prop := (Wv (P 6) ∧ Wz (P 6) ∧ Wk (P 6)) ∧ ((P 6 0 = 0 ∧ ∀ q : Nat, q < 2 → P 10 q = 0) ∨ P 6 0 = 1) ∧ (0 ≤ P 0 2 ∧ P 0 2 ≤ 120) ∧ (∀ k : Nat, (k : Int) < P 0 2 → 0 ≤ P 1 k ∧ P 1 k ≤ 255) ∧ Wz (P 5) ∧ Wz (P 7)
def J (h : MH) (P : Nat → Nat → Int) : Prop := Es h ∧ Mr h P ∧ CR h P ∧ Dn h ∧ Iw P
/-- what a call may make -/
def Gr (h h1 h' : MH) : Prop := h.2.1 ≤ h'.2.1 ∧ h'.2.1 ≤ h.2.1 + 20 ∧ h.2.2 ≤ h'.2.2 ∧ h'.2.2 ≤ h.2.2 + 100 ∧ h'.1 2 = h.1 2 ∧ h1.1 2 = h.1 2
theorem Gr_eq {lo hi : Nat} {h h' : MH} (c : Ch lo hi h h') (hl : 3 ≤ lo) : Gr h h h' := by
  unfold Gr
  rw [c.1]
  exact ⟨Nat.le_refl _, by omega, Nat.le_refl _, by omega, c.2 2 (by omega), rfl⟩
/-- the frames -/
theorem RO.fr {lo hi : Nat} {h h' : MH} {la le it : Nat → Int} (X : RO h la le it) (c : Ch lo hi h h') (hh : hi < 4 ∨ 7 < lo) : RO h' la le it := by
  obtain ⟨a, b, d, x1, x2, x3, x4, x5⟩ := X
  exact ⟨a, b, d, (c.2 _ (by omega)).trans x1, (c.2 _ (by omega)).trans x2, (c.2 _ (by omega)).trans x3, (c.2 _ (by omega)).trans x4, x5⟩
theorem TO.fr {lo hi : Nat} {h h' : MH} {tp : Nat → Int} {n lf : Int} (X : TO h tp n lf) (c : Ch lo hi h h') (hh : hi < 8 ∨ 9 < lo) : TO h' tp n lf := by
  obtain ⟨a, b, d, x1, x2⟩ := X
  exact ⟨a, b, d, (c.2 _ (by omega)).trans x1, (c.2 _ (by omega)).trans x2⟩
theorem AO.fr {lo hi : Nat} {h h' : MH} {v ac : Nat → Int} {n : Int} (X : AO h v ac n) (c : Ch lo hi h h') (hh : hi < 10 ∨ 16 < lo) : AO h' v ac n := by
  obtain ⟨A, nx, x1, x2, x3⟩ := X
  exact ⟨A, nx, (c.2 _ (by omega)).trans x1, fun a ha => (c.2 _ (by omega)).trans (x2 a ha), x3⟩
theorem SO.fr {lo hi : Nat} {h h' : MH} (X : SO h) (c : Ch lo hi h h') (hh : hi < 17 ∨ 25 < lo) : SO h' := by
  obtain ⟨R, x1, x2⟩ := X
  exact ⟨R, (c.2 _ (by omega)).trans x1, fun a a1 a2 => (c.2 _ (by omega)).trans (x2 a a1 a2)⟩
theorem IM.fr {lo hi : Nat} {h h' : MH} {im kp : Nat → Int} (X : IM h im kp) (c : Ch lo hi h h') (hh : hi < 32 ∨ 32 < lo) (h48 : hi < 48) : IM h' im kp := by
  obtain ⟨gi, x1, x2, x3⟩ := X
  refine ⟨gi, (c.2 _ (by omega)).trans x1, fun k hk => ?_, x3⟩
  rcases x2 k hk with y | ⟨y, p, p1, p2, p3, p4⟩
  · exact Or.inl y
  · exact Or.inr ⟨y, p, p1, p2, p3.fr (c.hk h48) (c.2 _ (by omega)) (c.2 _ (by omega)) (c.2 _ (by omega)), p4⟩
theorem TC.fr {lo hi : Nat} {h h' : MH} {tr : Nat → Int} {n : Int} (X : TC h tr n) (c : Ch lo hi h h') (hh : hi < 33 ∨ 33 < lo) : TC h' tr n := by
  obtain ⟨tc, x1, x2⟩ := X
  exact ⟨tc, (c.2 _ (by omega)).trans x1, x2⟩
theorem Dn.fr {lo hi : Nat} {h h' : MH} (X : Dn h) (c : Ch lo hi h h') (h48 : hi < 48) : Dn h' := by
  obtain ⟨x1, x2⟩ := X
  unfold Dn
  rw [c.1]
  exact ⟨x1, fun p hp => (c.2 _ (by omega)).trans (x2 p hp)⟩
theorem CR.fr {h h' : MH} {P : Nat → Nat → Int} (X : CR h P) (c : Ch 34 47 h h') : CR h' P := by
  obtain ⟨x1, x2, x3, x4, x5, x6, x7, x8, x9⟩ := X
  exact ⟨x1.fr c (by omega), x2.fr c (by omega), x3.fr c (by omega), x4.fr c (by omega), x5.fr c (by omega), x6.ch c (by omega) (by omega), x7.ch c (by omega) (by omega), x8.fr c (by omega) (by omega), x9.fr c (by omega)⟩
/-- the class has searched, and tried -/
theorem CR.srch {h h' : MH} {P : Nat → Nat → Int} (X : CR h P) (c : Ch 17 25 h h') (S : SO h') : CR h' P := by
  obtain ⟨x1, x2, x3, x4, x5, x6, x7, x8, x9⟩ := X
  exact ⟨x1.fr c (by omega), x2.fr c (by omega), x3.fr c (by omega), x4.fr c (by omega), S, x6.ch c (by omega) (by omega), x7.ch c (by omega) (by omega), x8.fr c (by omega) (by omega), x9.fr c (by omega)⟩
theorem CR.tri {h h' : MH} {P : Nat → Nat → Int} (X : CR h P) (c : Ch 29 31 h h') (T : Tb h' 29) : CR h' P := by
  obtain ⟨x1, x2, x3, x4, x5, x6, x7, x8, x9⟩ := X
  exact ⟨x1.fr c (by omega), x2.fr c (by omega), x3.fr c (by omega), x4.fr c (by omega), x5.fr c (by omega), x6.ch c (by omega) (by omega), T, x8.fr c (by omega) (by omega), x9.fr c (by omega)⟩
/-- only this of the reference's lists counts for the class -/
def Sp (P Q : Nat → Nat → Int) : Prop := (Q 6 = P 6 ∧ Q 2 = P 2 ∧ Q 3 = P 3 ∧ Q 4 = P 4 ∧ Q 1 = P 1 ∧ Q 8 = P 8 ∧ Q 9 = P 9 ∧ Q 10 = P 10 ∧ Q 11 = P 11) ∧ Q 0 13 = P 0 13 ∧ Q 0 2 = P 0 2 ∧ Q 0 9 = P 0 9 ∧ Q 0 18 = P 0 18 ∧ Q 0 22 = P 0 22
theorem Sp_0 (P : Nat → Nat → Int) : Sp P P := ⟨⟨rfl, rfl, rfl, rfl, rfl, rfl, rfl, rfl, rfl⟩, rfl, rfl, rfl, rfl, rfl⟩
theorem CR.sp {h : MH} {P Q : Nat → Nat → Int} (X : CR h P) (S : Sp P Q) : CR h Q := by
  obtain ⟨⟨s6, s2, s3, s4, s1, s8, s9, s10, s11⟩, t13, t2, t9, t18, t22⟩ := S
  unfold CR
  rw [s6, s2, s3, s4, s1, s8, s9, s10, s11, t13, t2, t9, t18, t22]
  exact X
theorem Iw.sp {P Q : Nat → Nat → Int} (X : Iw P) (S : Sp P Q) (z5 : Wz (Q 5)) (z7 : Wz (Q 7)) : Iw Q := by
  obtain ⟨x1, x2, x3, x4, x5, x6⟩ := X
  obtain ⟨⟨s6, s2, s3, s4, s1, s8, s9, s10, s11⟩, t13, t2, t9, t18, t22⟩ := S
  unfold Iw
  rw [s6, s1, t2, s10]
  exact ⟨x1, x2, x3, x4, z5, z7⟩
/-- the reference has written into its own lists alone -/
theorem J.ref {h h' : MH} {P Q : Nat → Nat → Int} (X : J h P) (c : Ch 34 47 h h') (M : Mr h' Q) (S : Sp P Q) (z5 : Wz (Q 5)) (z7 : Wz (Q 7)) : J h' Q := by
  obtain ⟨x1, x2, x3, x4, x5⟩ := X
  exact ⟨c.es (by omega) x1, M, (x3.fr c).sp S, x4.fr c (by omega), x5.sp S z5 z7⟩
def th (P : Nat → Nat → Int) : Nat → Nat → Int := upR P 0 (upI (P 0) 0 0)
theorem Sp_th (P : Nat → Nat → Int) : Sp P (th P) := ⟨⟨rfl, rfl, rfl, rfl, rfl, rfl, rfl, rfl, rfl⟩, rfl, rfl, rfl, rfl, rfl⟩
/-- every call of the reference begins so -/
theorem J.thr {h : MH} {P : Nat → Nat → Int} (X : J h P) : ∃ h', pfv h (some 34) [11] 0 (.int (0 : Int32)) = some h' ∧ Ch 34 47 h h' ∧ J h' (th P) := by
  obtain ⟨h', e, c, M⟩ := mr_pf X.2.1 0 rfl 0
  exact ⟨h', e, c, X.ref c M (Sp_th P) X.2.2.2.2.2.2.2.2.1 X.2.2.2.2.2.2.2.2.2⟩
/-- the two answer alike -/
def Ok (fC fM : MH → Option (Int32 × MH)) : Prop := ∀ h P, J h P → ∃ x h1 h2 P2, fC h = some (x, h1) ∧ fM h1 = some (x, h2) ∧ J h2 P2 ∧ Gr h h1 h2
def Okr (fC : MH → Option Int32) (fM : MH → Option (Int32 × MH)) : Prop := ∀ h P, J h P → ∃ x h2 P2, fC h = some x ∧ fM h = some (x, h2) ∧ J h2 P2 ∧ Gr h h h2
theorem i_ex (x : Int32) : ∃ k : Int, -2147483648 ≤ k ∧ k < 2147483648 ∧ x = zI k := ⟨x.toInt, Int32.minValue_le_toInt x, Int32.toInt_lt x, (zI_of x).symm⟩
theorem s_fault : Okr (f_C_fault (some 3)) (f_M_fault (some 34)) := by
  intro h P X
  obtain ⟨g, e, c, X'⟩ := X.thr
  have M := X'.2.1
  obtain ⟨-, -, ⟨x1, x2, ⟨pl, fa, fp, x3, -⟩, -⟩, -⟩ := X
  refine ⟨zI (P 0 9), g, th P, ?_, ?_, X', Gr_eq c (by omega)⟩
  · unfold f_C_fault f_T_latestFault
    rw [cg1 x1, bd, onc_o x3, gfi_o x3 (k := 5) (x := zI (P 0 9)) rfl rfl]
    rfl
  · unfold f_M_fault
    rw [e, bd, mf9 M]
    rfl
theorem s_status : Okr (f_C_status (some 3)) (f_M_status (some 34)) := by
  intro h P X
  obtain ⟨g, e, c, X'⟩ := X.thr
  have M := X'.2.1
  obtain ⟨-, -, ⟨x1, -⟩, -⟩ := X
  refine ⟨zI (P 0 13), g, th P, ?_, ?_, X', Gr_eq c (by omega)⟩
  · unfold f_C_status
    rw [cf9 x1]
    rfl
  · unfold f_M_status
    rw [e, bd, mf13 M]
    rfl
