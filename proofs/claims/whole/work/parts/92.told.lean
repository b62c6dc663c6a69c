/-! ===== what is told, the class: head, moored ones ===== -/
def Bh (h : MH) (v : Nat → Int) : Prop := h.1 29 = bO v 29 ∧ h.1 30 = aZ 24 (fun j => v (18 + j))
def CH (h : MH) (tp : Nat → Int) (n lf0 : Int) (S : PS) : Prop := TS h tp n lf0 S ∧ Tb h 29 ∧ ∀ v p, S = .ok (v, p) → Bh h v
def Fh (h h' : MH) : Prop := h'.2 = h.2 ∧ ∀ j, j ≠ 8 → j ≠ 29 → j ≠ 30 → h'.1 j = h.1 j
theorem Fh_0 (h : MH) : Fh h h := ⟨rfl, fun _ _ _ _ => rfl⟩
theorem Fh.tr {h h1 h2 : MH} (a : Fh h h1) (b : Fh h1 h2) : Fh h h2 := ⟨b.1.trans a.1, fun j q1 q2 q3 => (b.2 j q1 q2 q3).trans (a.2 j q1 q2 q3)⟩
theorem Ch.fh {lo hi : Nat} {h h1 : MH} (c : Ch lo hi h h1) (hl : (lo = 8 ∧ hi = 8) ∨ (29 ≤ lo ∧ hi ≤ 30)) : Fh h h1 := ⟨c.1, fun j q1 q2 q3 => c.2 j (by omega)⟩
theorem sL_inv {L : Nat → Int} {c : Int} {S : PS} {v : Nat → Int} {q : Nat} (h : sL L c S = .ok (v, q)) : ∃ p, S = .ok (v, p) ∧ L p = c ∧ q = p + 1 := by
  cases S with
  | ok vp =>
    obtain ⟨u, p⟩ := vp
    have h : (if L p = c then (.ok (u, p + 1) : PS) else .error (1, (p : Int))) = .ok (v, q) := h
    by_cases e : L p = c
    · rw [if_pos e] at h
      cases h
      exact ⟨p, rfl, e, rfl⟩
    · rw [if_neg e] at h
      cases h
  | error e => cases h
theorem sN_inv {L : Nat → Int} {j : Nat} {lo hi : Int} {S : PS} {v' : Nat → Int} {q : Nat} (h : sN L j lo hi S = .ok (v', q)) : ∃ v p, S = .ok (v, p) ∧ okN L lo hi p ∧ v' = upI v j (vlN L p) ∧ q = p + dcN L p := by
  cases S with
  | ok vp =>
    obtain ⟨u, p⟩ := vp
    by_cases e : okN L lo hi p
    · rw [sN_ok e] at h
      cases h
      exact ⟨u, p, rfl, e, rfl, rfl⟩
    · rw [sN_no e] at h
      cases h
  | error e => cases h
theorem sD_inv {L : Nat → Int} {j : Nat} {S : PS} {v' : Nat → Int} {q : Nat} (h : sD L j S = .ok (v', q)) : ∃ v p, S = .ok (v, p) ∧ (97 ≤ L p ∧ L p ≤ 106) ∧ v' = upI v (18 + j) (L p - 97) ∧ q = p + 1 := by
  cases S with
  | ok vp =>
    obtain ⟨u, p⟩ := vp
    by_cases e : 97 ≤ L p ∧ L p ≤ 106
    · rw [sD_ok e] at h
      cases h
      exact ⟨u, p, rfl, e, rfl, rfl⟩
    · rw [sD_no e] at h
      cases h
  | error e => cases h
theorem oB_inj {c : Nat} {l l' : List Value} (h : oB c l = oB c l') : l = l' := by
  have := congrArg (fun q : MC => match q with
    | .inr (.inr q) => q.2
    | _ => []) h
  exact this
section
variable {h : MH} {tp : Nat → Int} {n lf0 : Int} {S : PS} {F : Nat}
theorem tb_obj (T : Tb h 29) {k j : Nat} (hset : ∀ (v : Nat → Int) (x : Int), (bF v 30 31).set k (.int (zI x)) = bF (upI v j x) 30 31) (hk : k < 11) (x : Int) : ∃ h', pfv h (some 29) [1] k (.int (zI x)) = some h' ∧ Ch 29 29 h h' ∧ Tb h' 29 ∧ ∀ v, h.1 29 = bO v 29 → h'.1 29 = bO (upI v j x) 29 := by
  obtain ⟨t, f, g, t1, t2, t3, t4, t5⟩ := T
  have c : Ch 29 29 h (mj_up h 29 (bO (upI t j x) 29)) := Ch_up h _ (by omega) (by omega)
  refine ⟨mj_up h 29 (bO (upI t j x) 29), ?_, c, ⟨upI t j x, f, g, by rw [up_get, if_pos rfl], (c.2 _ (by omega)).trans t2, t3, (c.2 _ (by omega)).trans t4, t5.fr (c.hk (by omega))⟩, fun v hv => ?_⟩
  · rw [pfv_o t1 (by rw [bF_len]; exact hk) rfl]
    congr 4
    exact hset t x
  · rw [up_get, if_pos rfl]
    have e := oB_inj (t1.symm.trans hv)
    have e2 := hset t x
    rw [show bF t 30 31 = bF v 30 31 from e, hset v x] at e2
    show oB 1 (bF (upI t j x) 30 31) = oB 1 (bF (upI v j x) 30 31)
    rw [e2]
theorem tb_dep (T : Tb h 29) {i : Nat} (hi : i < 24) (x : Int) : ∃ h', f_C_put (some 30) (zI (i : Int)) (zI x) h = some h' ∧ Ch 30 30 h h' ∧ Tb h' 29 ∧ ∀ v : Nat → Int, h.1 30 = aZ 24 (fun j => v (18 + j)) → h'.1 30 = aZ 24 (fun j => upI v (18 + i) x (18 + j)) := by
  obtain ⟨t, f, g, t1, t2, t3, t4, t5⟩ := T
  have c : Ch 30 30 h (mj_up h 30 (aZ 24 (upI f i x))) := Ch_up h _ (by omega) (by omega)
  have ep := s_put t2 (by omega) (i := (i : Int)) (x := x) (by omega) (by omega) (by omega)
  rw [Int.toNat_natCast] at ep
  refine ⟨_, ep, c, ⟨t, upI f i x, g, (c.2 _ (by omega)).trans t1, by rw [up_get, if_pos rfl], fun j hj => by rw [upI_n _ _ (by omega)]; exact t3 j hj, (c.2 _ (by omega)).trans t4, t5.fr (c.hk (by omega))⟩, fun v hv => ?_⟩
  have ep2 := s_put hv (by omega) (i := (i : Int)) (x := x) (by omega) (by omega) (by omega)
  rw [Int.toNat_natCast] at ep2
  have e := Option.some.inj (ep.symm.trans ep2)
  rw [e, up_get, if_pos rfl]
  congr 2
  funext j
  unfold upI
  by_cases c : j = i
  · rw [if_pos c, if_pos (by omega)]
  · rw [if_neg c, if_neg (by omega)]
theorem CH.on (X : CH h tp n lf0 S) {α : Type} (x : Option α) : onc h (some 8) 9 x = x := X.1.on x
theorem CH.b (X : CH h tp n lf0 S) : gfr h (some 29) [1] 9 = some (some 30) := by
  obtain ⟨-, ⟨t, f, g, t1, -⟩, -⟩ := X
  exact (b_g t1).2.2.2.2.2.2.2.2.2.1
theorem k_let (hn : 0 ≤ n ∧ n ≤ 120) (ht : ∀ k : Nat, (k : Int) < n → 0 ≤ tp k ∧ tp k ≤ 255) (ci : Int32) {c : Int} (hci : ci = zI c) (hc : 0 ≤ c ∧ c ≤ 255) (X : CH h tp n lf0 S) : ∃ h', f_T_readLetter (some 8) ci h = some h' ∧ Fh h h' ∧ CH h' tp n lf0 (sL (Lt tp n) c S) := by
  obtain ⟨h', e, cc, T⟩ := c_let hn ht hc X.1
  refine ⟨h', by rw [hci]; exact e, cc.fh (by omega), T, X.2.1.ch cc (by omega) (by omega), fun v q hq => ?_⟩
  obtain ⟨p, z1, -⟩ := sL_inv hq
  have B := X.2.2 v p z1
  exact ⟨(cc.2 _ (by omega)).trans B.1, (cc.2 _ (by omega)).trans B.2⟩
theorem k_num (hF : 100 ≤ F) (hn : 0 ≤ n ∧ n ≤ 120) (ht : ∀ k : Nat, (k : Int) < n → 0 ≤ tp k ∧ tp k ≤ 255) (li hi' : Int32) {lo hi : Int} (hli : li = zI lo) (hhi' : hi' = zI hi) (hlo : 0 ≤ lo ∧ lo ≤ hi) (hhi : hi ≤ 100) {k j : Nat} (hset : ∀ (v : Nat → Int) (x : Int), (bF v 30 31).set k (.int (zI x)) = bF (upI v j x) 30 31) (hk : k < 11) (hj : j < 18) (X : CH h tp n lf0 S) : ∃ x h1 h', f_T_readNumber F (some 8) li hi' h = some (x, h1) ∧ pfv h1 (some 29) [1] k (.int x) = some h' ∧ Fh h h' ∧ CH h' tp n lf0 (sN (Lt tp n) j lo hi S) := by
  obtain ⟨x, h1, e1, c1, T1, xr, hx⟩ := c_num hF hn ht hlo hhi j X.1
  have Tb1 := X.2.1.ch c1 (by omega) (by omega)
  obtain ⟨h2, e2, c2, Tb2, hb⟩ := tb_obj Tb1 hset hk x
  refine ⟨zI x, h1, h2, by rw [hli, hhi']; exact e1, e2, (c1.fh (by omega)).tr (c2.fh (by omega)), T1.fr c2 (by omega), Tb2, fun v' q hq => ?_⟩
  obtain ⟨v, p, z1, -, z2, -⟩ := sN_inv hq
  have B := X.2.2 v p z1
  have hv := hx v p v' q z1 hq
  rw [hv]
  refine ⟨hb v ((c1.2 _ (by omega)).trans B.1), ?_⟩
  rw [c2.2 _ (by omega), c1.2 _ (by omega), B.2]
  congr 2
  funext w
  show v (18 + w) = upI v j x (18 + w)
  rw [upI_n _ _ (by omega)]
theorem k_dep (hn : 0 ≤ n ∧ n ≤ 120) (ht : ∀ k : Nat, (k : Int) < n → 0 ≤ tp k ∧ tp k ≤ 255) {j : Nat} (hj : j < 24) (X : CH h tp n lf0 S) : ∃ x h1 h', f_T_readDepth (some 8) h = some (x, h1) ∧ f_C_put (some 30) (zI (j : Int)) x h1 = some h' ∧ Fh h h' ∧ CH h' tp n lf0 (sD (Lt tp n) j S) := by
  obtain ⟨x, h1, e1, c1, T1, xr, hx⟩ := c_dep hn ht j X.1
  have Tb1 := X.2.1.ch c1 (by omega) (by omega)
  obtain ⟨h2, e2, c2, Tb2, hb⟩ := tb_dep Tb1 hj x
  refine ⟨zI x, h1, h2, e1, e2, (c1.fh (by omega)).tr (c2.fh (by omega)), T1.fr c2 (by omega), Tb2, fun v' q hq => ?_⟩
  obtain ⟨v, p, z1, -, z2, -⟩ := sD_inv hq
  have B := X.2.2 v p z1
  have hv := hx v p v' q z1 hq
  rw [hv]
  refine ⟨?_, hb v ((c1.2 _ (by omega)).trans B.2)⟩
  rw [c2.2 _ (by omega), c1.2 _ (by omega), B.1]
  exact bO_cg (fun k hk => by rw [upI_n _ _ (by omega)])
noncomputable def pLaw (L : Nat → Int) (S : PS) : PS := sL L 59 (sN L 3 0 3 (sL L 44 (sN L 2 1 5 (sL L 44 (sN L 1 0 8 (sL L 119 S))))))
def dF (L : Nat → Int) (S : PS) : Nat → PS
  | 0 => S
  | k + 1 => sD L k (dF L S k)
def pDep (L : Nat → Int) (S : PS) : PS := sL L 59 (dF L (sL L 100 S) 24)
noncomputable def pBoat (L : Nat → Int) (S : PS) : PS := sL L 59 (sN L 15 0 7 (sL L 44 (sN L 14 0 23 (sL L 98 S))))
theorem k_law (hF : 100 ≤ F) (hn : 0 ≤ n ∧ n ≤ 120) (ht : ∀ k : Nat, (k : Int) < n → 0 ≤ tp k ∧ tp k ≤ 255) (X : CH h tp n lf0 S) : ∃ h', f_T_readLaw F (some 8) (some 29) h = some h' ∧ Fh h h' ∧ CH h' tp n lf0 (pLaw (Lt tp n) S) := by
  obtain ⟨h1, e1, f1, X1⟩ := k_let hn ht 119 (c := 119) rfl (by omega) X
  obtain ⟨x2, g2, h2, e2, p2, f2, X2⟩ := k_num hF hn ht 0 8 (lo := 0) (hi := 8) rfl rfl (by omega) (by omega) (k := 0) (j := 1) (fun v x => bF_set0 v x 30 31) (by omega) (by omega) X1
  obtain ⟨h3, e3, f3, X3⟩ := k_let hn ht 44 (c := 44) rfl (by omega) X2
  obtain ⟨x4, g4, h4, e4, p4, f4, X4⟩ := k_num hF hn ht 1 5 (lo := 1) (hi := 5) rfl rfl (by omega) (by omega) (k := 1) (j := 2) (fun v x => bF_set1 v x 30 31) (by omega) (by omega) X3
  obtain ⟨h5, e5, f5, X5⟩ := k_let hn ht 44 (c := 44) rfl (by omega) X4
  obtain ⟨x6, g6, h6, e6, p6, f6, X6⟩ := k_num hF hn ht 0 3 (lo := 0) (hi := 3) rfl rfl (by omega) (by omega) (k := 2) (j := 3) (fun v x => bF_set2 v x 30 31) (by omega) (by omega) X5
  obtain ⟨h7, e7, f7, X7⟩ := k_let hn ht 59 (c := 59) rfl (by omega) X6
  refine ⟨h7, ?_, f1.tr (f2.tr (f3.tr (f4.tr (f5.tr (f6.tr f7))))), X7⟩
  unfold f_T_readLaw
  rw [X.on, e1, bd, X1.on, e2, bd, p2, bd, X2.on, e3, bd, X3.on, e4, bd, p4, bd, X4.on, e5, bd, X5.on, e6, bd, p6, bd, X6.on, e7]
  rfl
theorem k_deps8 (hn : 0 ≤ n ∧ n ≤ 120) (ht : ∀ k : Nat, (k : Int) < n → 0 ≤ tp k ∧ tp k ≤ 255) : ∀ (d i fu : Nat) (h : MH), i + d = 24 → d < fu → CH h tp n lf0 (dF (Lt tp n) S i) → ∃ h', b_T_readDepths_8 F fu (some 8) (some 29) (zI (i : Int)) h = some h' ∧ Fh h h' ∧ CH h' tp n lf0 (sL (Lt tp n) 59 (dF (Lt tp n) S 24)) := by
  intro d
  induction d with
  | zero =>
    intro i fu h hi hf X
    obtain ⟨fu, rfl⟩ : ∃ q, fu = q + 1 := ⟨fu - 1, by omega⟩
    have h24 : i = 24 := by omega
    subst h24
    obtain ⟨h1, e1, f1, X1⟩ := k_let hn ht 59 (c := 59) rfl (by omega) X
    refine ⟨h1, ?_, f1, X1⟩
    unfold b_T_readDepths_8
    rw [if_pos (by decide), X.on, e1]
    rfl
  | succ d ih =>
    intro i fu h hi hf X
    obtain ⟨fu, rfl⟩ : ∃ q, fu = q + 1 := ⟨fu - 1, by omega⟩
    have x24 : (24 : Int32) ≤ zI (i : Int) ↔ 24 ≤ (i : Int) := zI_le (a := 24) (by omega) (by omega) (by omega) (by omega)
    obtain ⟨x, h1, h2, e1, e2, f2, X2⟩ := k_dep hn ht (j := i) (by omega) X
    obtain ⟨h3, e3, f3, X3⟩ := ih (i + 1) fu h2 (by omega) (by omega) X2
    refine ⟨h3, ?_, f2.tr f3, X3⟩
    unfold b_T_readDepths_8
    simp only [x24]
    rw [if_neg (by omega), X.b, bd, X.on, e1, bd, e2, bd, l1, zI_add]
    exact e3
theorem k_deps (hF : 100 ≤ F) (hn : 0 ≤ n ∧ n ≤ 120) (ht : ∀ k : Nat, (k : Int) < n → 0 ≤ tp k ∧ tp k ≤ 255) (X : CH h tp n lf0 S) : ∃ h', f_T_readDepths F (some 8) (some 29) h = some h' ∧ Fh h h' ∧ CH h' tp n lf0 (pDep (Lt tp n) S) := by
  obtain ⟨h1, e1, f1, X1⟩ := k_let hn ht 100 (c := 100) rfl (by omega) X
  obtain ⟨h2, e2, f2, X2⟩ := k_deps8 (F := F) hn ht 24 0 F h1 rfl (by omega) X1
  refine ⟨h2, ?_, f1.tr f2, X2⟩
  unfold f_T_readDepths
  rw [X.on, e1, bd]
  exact e2
theorem k_boat (hF : 100 ≤ F) (hn : 0 ≤ n ∧ n ≤ 120) (ht : ∀ k : Nat, (k : Int) < n → 0 ≤ tp k ∧ tp k ≤ 255) (X : CH h tp n lf0 S) : ∃ h', f_T_readBoat F (some 8) (some 29) h = some h' ∧ Fh h h' ∧ CH h' tp n lf0 (pBoat (Lt tp n) S) := by
  obtain ⟨h1, e1, f1, X1⟩ := k_let hn ht 98 (c := 98) rfl (by omega) X
  obtain ⟨x2, g2, h2, e2, p2, f2, X2⟩ := k_num hF hn ht 0 23 (lo := 0) (hi := 23) rfl rfl (by omega) (by omega) (k := 3) (j := 14) (fun v x => bF_set3 v x 30 31) (by omega) (by omega) X1
  obtain ⟨h3, e3, f3, X3⟩ := k_let hn ht 44 (c := 44) rfl (by omega) X2
  obtain ⟨x4, g4, h4, e4, p4, f4, X4⟩ := k_num hF hn ht 0 7 (lo := 0) (hi := 7) rfl rfl (by omega) (by omega) (k := 4) (j := 15) (fun v x => bF_set4 v x 30 31) (by omega) (by omega) X3
  obtain ⟨h5, e5, f5, X5⟩ := k_let hn ht 59 (c := 59) rfl (by omega) X4
  refine ⟨h5, ?_, f1.tr (f2.tr (f3.tr (f4.tr f5))), X5⟩
  unfold f_T_readBoat
  rw [X.on, e1, bd, X1.on, e2, bd, p2, bd, X2.on, e3, bd, X3.on, e4, bd, p4, bd, X4.on, e5]
  rfl
/-- a trial cleared -/
theorem k_clear (T : Tb h 29) : ∃ h' v, f_B_clear (some 29) h = some h' ∧ Ch 29 29 h h' ∧ Tb h' 29 ∧ Bh h' v ∧ ∀ k, ¬ (k = 1 ∨ k = 2 ∨ k = 3 ∨ k = 14 ∨ k = 15 ∨ (18 ≤ k ∧ k < 42)) → v k = if k = 0 then 1 else 0 := by
  obtain ⟨h1, e1, c1, T1, b1⟩ := tb_obj T (k := 5) (j := 16) (fun v x => bF_set5 v x 30 31) (by omega) 0
  obtain ⟨h2, e2, c2, T2, b2'⟩ := tb_obj T1 (k := 6) (j := 17) (fun v x => bF_set6 v x 30 31) (by omega) 0
  obtain ⟨h3, e3, c3, T3, b3⟩ := tb_obj T2 (k := 7) (j := 13) (fun v x => bF_set7 v x 30 31) (by omega) 0
  obtain ⟨h4, e4, c4, T4, b4⟩ := tb_obj T3 (k := 8) (j := 4) (fun v x => bF_set8 v x 30 31) (by omega) 0
  obtain ⟨t, f, g, t1, t2, t3, -⟩ := T
  have r1 := b4 _ (b3 _ (b2' _ (b1 t t1)))
  have call : Ch 29 29 h h4 := c1.tr (c2.tr (c3.tr c4))
  refine ⟨h4, fun k => if k = 1 ∨ k = 2 ∨ k = 3 ∨ k = 14 ∨ k = 15 then t k else if 18 ≤ k ∧ k < 42 then f (k - 18) else if k = 0 then 1 else 0, ?_, call, T4, ⟨?_, ?_⟩, fun k hk => ?_⟩
  · unfold f_B_clear
    rw [show (Value.int (0 : Int32)) = Value.int (zI 0) from rfl, e1, bd, e2, bd, e3, bd, e4]
    rfl
  · rw [r1]
    rfl
  · rw [call.2 _ (by omega), t2]
    congr 2
    funext j
    dsimp only
    rw [if_neg (by omega)]
    by_cases c : j < 24
    · rw [if_pos (by omega), show 18 + j - 18 = j by omega]
    · rw [if_neg (by omega), if_neg (by omega), t3 j (by omega)]
  · dsimp only
    rw [if_neg (by omega), if_neg (by omega)]
end
/-! the moored ones -/
theorem orN {m c : Nat} (h : btN m c = 0) : m ||| 2 ^ c = m + 2 ^ c := by
  have e : m ||| 2 ^ c = m ^^^ 2 ^ c := by
    apply Nat.eq_of_testBit_eq
    intro i
    rw [Nat.testBit_or, Nat.testBit_xor, Nat.testBit_two_pow]
    by_cases z : c = i
    · subst z
      have : m.testBit c = false := by
        rw [Nat.testBit_eq_decide_div_mod_eq]
        unfold btN at h
        rw [h]
        rfl
      rw [this]
      simp
    · simp [z]
  rw [e, xorN, if_pos h]
noncomputable def moB (L : Nat → Int) (v : Nat → Int) (p : Nat) : PS := match sN L 13 0 23 (.ok (v, p + 1)) with
  | .ok (v', q) => if btN (v 13).toNat (v' 13).toNat = 1 then .error (2, (p : Int) + 1) else sL L 59 (.ok (upI v 13 (((v 13).toNat ||| 2 ^ (v' 13).toNat : Nat) : Int), q))
  | .error e => .error e
noncomputable def moB' (L : Nat → Int) (S : PS) : PS := match S with
  | .ok (v, p) => moB L v p
  | .error e => .error e
def upm (x : Nat) (S : PS) : PS := match S with
  | .ok (v, p) => .ok (upI v 13 (((v 13).toNat ||| 2 ^ x : Nat) : Int), p)
  | .error e => .error e
section
variable {h : MH} {tp : Nat → Int} {n lf0 : Int} {S : PS} {F : Nat}
theorem k_87 (hn : 0 ≤ n ∧ n ≤ 120) (ht : ∀ k : Nat, (k : Int) < n → 0 ≤ tp k ∧ tp k ≤ 255) (k2 : (Option Nat) → (Option Nat) → Int32 → MH → (Option MH)) (m : Int) {x : Nat} (hx : x < 24) (X : CH h tp n lf0 S) (hS : ∀ v p, S = .ok (v, p) → 0 ≤ v 13 ∧ v 13 < 16777216) : ∃ h', b_T_readMoored_87 F k2 (some 8) (some 29) (zI m) (zI (x : Int)) h = k2 (some 8) (some 29) (zI (m + 1)) h' ∧ Fh h h' ∧ CH h' tp n lf0 (sL (Lt tp n) 59 (upm x S)) := by
  obtain ⟨t, f, g, t1, -⟩ := id X.2.1
  have g7 : gfi h (some 29) [1] 7 = some (zI (t 13)) := (b_g t1).2.2.2.2.2.2.2.1
  obtain ⟨y, hy⟩ : ∃ y : Int, zI (t 13) ||| ((1 : Int32) <<< (zI (x : Int) &&& 31)) = zI y := ⟨_, (zI_of _).symm⟩
  obtain ⟨h1, e1, c1, T1, b1⟩ := tb_obj X.2.1 (k := 7) (j := 13) (fun v x => bF_set7 v x 30 31) (by omega) y
  have X1 : CH h1 tp n lf0 (upm x S) := by
    refine ⟨?_, T1, fun v' q hq => ?_⟩
    · have := X.1.fr c1 (by omega)
      cases S with
      | ok vp => exact this
      | error e => exact this
    · cases S with
      | error e => cases hq
      | ok vp =>
        obtain ⟨v, p⟩ := vp
        have B := X.2.2 v p rfl
        obtain ⟨w1, w2⟩ := hS v p rfl
        have hv := Except.ok.inj hq
        have hv1 := congrArg Prod.fst hv
        have hv1 : upI v 13 (((v 13).toNat ||| 2 ^ x : Nat) : Int) = v' := hv1
        have e13 : zI (t 13) = zI (v 13) := by
          have := (b_g B.1).2.2.2.2.2.2.2.1
          rw [g7] at this
          exact Option.some.inj this
        have ey : zI y = zI (((v 13).toNat ||| 2 ^ x : Nat) : Int) := by
          rw [← hy, e13, oneN hx]
          obtain ⟨m13, hm⟩ : ∃ m13 : Nat, v 13 = m13 := ⟨(v 13).toNat, by omega⟩
          have h2 : 2 ^ x < 2 ^ 24 := Nat.pow_lt_pow_right (by omega) hx
          rw [hm, zN, nI_or (by omega) (by omega), Int.toNat_natCast, zN]
        rw [← hv1]
        refine ⟨?_, ?_⟩
        · rw [b1 v B.1]
          show oB 1 (bF (upI v 13 y) 30 31) = oB 1 (bF (upI v 13 _) 30 31)
          rw [← bF_set7, ← bF_set7, ey]
        · rw [c1.2 _ (by omega), B.2]
          congr 2
          funext w
          show v (18 + w) = upI v 13 _ (18 + w)
          rw [upI_n _ _ (by omega)]
  obtain ⟨h2, e2, f2, X2⟩ := k_let hn ht 59 (c := 59) rfl (by omega) X1
  refine ⟨h2, ?_, (c1.fh (by omega)).tr f2, X2⟩
  unfold b_T_readMoored_87
  rw [g7, bd, hy, e1, bd, X1.on, e2, bd, l1, zI_add]
theorem k_41 (hF : 100 ≤ F) (hn : 0 ≤ n ∧ n ≤ 120) (ht : ∀ k : Nat, (k : Int) < n → 0 ≤ tp k ∧ tp k ≤ 255) (k2 : (Option Nat) → (Option Nat) → Int32 → MH → (Option MH)) (m : Int) (X : CH h tp n lf0 S) (hS : ∀ v p, S = .ok (v, p) → Lt tp n p = 109 ∧ 0 ≤ v 13 ∧ v 13 < 16777216) : ∃ h', b_T_readMoored_41 F k2 (some 8) (some 29) (zI m) h = k2 (some 8) (some 29) (zI (m + 1)) h' ∧ Fh h h' ∧ CH h' tp n lf0 (moB' (Lt tp n) S) := by
  obtain ⟨h1, e1, f1, X1⟩ := k_let hn ht 109 (c := 109) rfl (by omega) X
  obtain ⟨x, h2, e2, c2, T2, xr, hx⟩ := c_num hF hn ht (lo := 0) (hi := 23) (by omega) (by omega) 13 X1.1
  have Tb2 := X1.2.1.ch c2 (by omega) (by omega)
  obtain ⟨x, rfl⟩ := Int.eq_ofNat_of_zero_le xr.1
  have f2 : Fh h h2 := f1.tr (c2.fh (by omega))
  have on2 : ∀ y : Option MH, onc h2 (some 8) 9 y = y := fun y => T2.on y
  cases S with
  | error e =>
    have X2 : CH h2 tp n lf0 (.error e) := ⟨T2, Tb2, fun v p z => by cases z⟩
    obtain ⟨p, Y, -, r1, r2⟩ := T2.err
    obtain ⟨p1, Y1, -, -, -⟩ := X1.1.err
    have x0 : zI e.1 = (0 : Int32) ↔ e.1 = 0 := zI_eq (b := 0) (by omega) (by omega) (by omega) (by omega)
    obtain ⟨h3, e3, f3, X3⟩ := k_87 (F := F) hn ht k2 m (x := x) (by omega) X2 (fun v p z => by cases z)
    refine ⟨h3, ?_, f2.tr f3, X3⟩
    unfold b_T_readMoored_41
    rw [X.on, e1, bd, (t_g Y1).1, bd, X1.on, show f_T_readNumber F (some 8) (0 : Int32) (23 : Int32) h1 = _ from e2, bd, (t_g Y).2, bd]
    simp only [x0]
    rw [if_neg (show ¬ e.1 = 0 by omega)]
    exact e3
  | ok vp =>
    obtain ⟨v, p⟩ := vp
    obtain ⟨q1, q2, q3⟩ := hS v p rfl
    have es : sL (Lt tp n) 109 (.ok (v, p)) = .ok (v, p + 1) := if_pos q1
    rw [es] at X1 T2 hx
    obtain ⟨fp1, Y1, b1⟩ := X1.1.place
    have B1 := X1.2.2 v (p + 1) rfl
    have B2 : Bh h2 v := ⟨(c2.2 _ (by omega)).trans B1.1, (c2.2 _ (by omega)).trans B1.2⟩
    have g7 : gfi h2 (some 29) [1] 7 = some (zI (v 13)) := (b_g B2.1).2.2.2.2.2.2.2.1
    show ∃ h', _ ∧ _ ∧ CH h' tp n lf0 (moB (Lt tp n) v p)
    unfold moB
    cases hN : sN (Lt tp n) 13 0 23 (.ok (v, p + 1)) with
    | error e =>
      rw [hN] at T2
      have X2 : CH h2 tp n lf0 (.error e) := ⟨T2, Tb2, fun v p z => by cases z⟩
      obtain ⟨p', Y, -, r1, r2⟩ := T2.err
      have x0 : zI e.1 = (0 : Int32) ↔ e.1 = 0 := zI_eq (b := 0) (by omega) (by omega) (by omega) (by omega)
      obtain ⟨h3, e3, f3, X3⟩ := k_87 (F := F) hn ht k2 m (x := x) (by omega) X2 (fun v p z => by cases z)
      refine ⟨h3, ?_, f2.tr f3, X3⟩
      unfold b_T_readMoored_41
      rw [X.on, e1, bd, (t_g Y1).1, bd, X1.on, show f_T_readNumber F (some 8) (0 : Int32) (23 : Int32) h1 = _ from e2, bd, (t_g Y).2, bd]
      simp only [x0]
      rw [if_neg (show ¬ e.1 = 0 by omega)]
      exact e3
    | ok vq =>
      obtain ⟨v', q⟩ := vq
      have hv := hx v (p + 1) v' q rfl hN
      have h13 : v' 13 = x := by rw [hv, upI_s]
      rw [hN] at T2
      obtain ⟨fp, Y, b⟩ := T2.place
      obtain ⟨m13, hm⟩ : ∃ m13 : Nat, v 13 = m13 := ⟨(v 13).toNat, by omega⟩
      have hbit : f_C_bit (zI (v 13)) (zI (x : Int)) = zI (btN m13 x : Nat) := by
        unfold f_C_bit
        rw [hm, zN m13, bitN (by omega) (by omega), ← zN]
      have xb : zI (btN m13 x : Nat) = (1 : Int32) ↔ ((btN m13 x : Nat) : Int) = 1 := by
        have := btN_r m13 x
        exact zI_eq (b := 1) (by omega) (by omega) (by omega) (by omega)
      dsimp only
      rw [h13, hm, Int.toNat_natCast, Int.toNat_natCast]
      by_cases cb : btN m13 x = 1
      · obtain ⟨h3, e3, c3, Y3⟩ := t_fail0 Y 2 ((p + 1 : Nat) : Int)
        have T3 : TS h3 tp n lf0 (.error (2, ((p + 1 : Nat) : Int))) := TS.mkE Y3 b (by omega) (by omega)
        have X3 : CH h3 tp n lf0 (.error (2, (p : Int) + 1)) := ⟨T3, Tb2.ch c3 (by omega) (by omega), fun v p z => by cases z⟩
        obtain ⟨h4, e4, f4, X4⟩ := k_87 (F := F) hn ht k2 m (x := x) (by omega) X3 (fun v p z => by cases z)
        refine ⟨h4, ?_, f2.tr ((c3.fh (by omega)).tr f4), by rw [if_pos cb]; exact X4⟩
        unfold b_T_readMoored_41
        rw [X.on, e1, bd, (t_g Y1).1, bd, X1.on, show f_T_readNumber F (some 8) (0 : Int32) (23 : Int32) h1 = _ from e2, bd, (t_g Y).2, bd, if_pos (show zI 0 = (0 : Int32) from rfl), g7, bd, hbit]
        simp only [xb]
        rw [if_pos (by omega), on2, show f_T_fail (some 8) (2 : Int32) (zI ((p + 1 : Nat) : Int)) h2 = _ from e3, bd]
        exact e4
      · have X2 : CH h2 tp n lf0 (.ok (v, q)) := ⟨TS.mk Y b, Tb2, fun u r z => by cases z; exact B2⟩
        obtain ⟨h3, e3, f3, X3⟩ := k_87 (F := F) hn ht k2 m (x := x) (by omega) X2 (fun u r z => by cases z; exact ⟨q2, q3⟩)
        refine ⟨h3, ?_, f2.tr f3, ?_⟩
        · unfold b_T_readMoored_41
          rw [X.on, e1, bd, (t_g Y1).1, bd, X1.on, show f_T_readNumber F (some 8) (0 : Int32) (23 : Int32) h1 = _ from e2, bd, (t_g Y).2, bd, if_pos (show zI 0 = (0 : Int32) from rfl), g7, bd, hbit]
          simp only [xb]
          rw [if_neg (by omega)]
          exact e3
        · rw [if_neg cb]
          have : upm x (.ok (v, q)) = .ok (upI v 13 ((m13 ||| 2 ^ x : Nat) : Int), q) := by
            show (.ok (upI v 13 (((v 13).toNat ||| 2 ^ x : Nat) : Int), q) : PS) = _
            rw [hm, Int.toNat_natCast]
          rw [this] at X3
          exact X3
end
