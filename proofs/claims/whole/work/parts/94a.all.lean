/-! ===== what is told, the class: all of it ===== -/
def WQ (v : Nat → Int) : Prop := Wv v ∧ Wz v ∧ v 17 = 0 ∧ v 0 = 1 ∧ v 13 = 0 ∧ v 4 = 0
def vz : Nat → Int := fun k => if k = 0 then 1 else 0
theorem vz_Q : WQ vz := by
  have h : ∀ k, vz k = if k = 0 then 1 else 0 := fun k => rfl
  refine ⟨⟨?_, ?_, ?_, ?_, ?_, ?_, ?_, ?_, ?_, ?_, ?_⟩, fun k hk => by rw [h, if_neg (by omega)], rfl, rfl, rfl, rfl⟩
  · rw [h]; decide
  · rw [h]; decide
  · rw [h]; decide
  · rw [h]; decide
  · intro i hi
    rw [h, if_neg (by omega)] at hi
    omega
  · rw [h]; decide
  · rw [h]; decide
  · rw [h]; decide
  · rw [h]; decide
  · rw [h]; decide
  · intro k hk
    rw [h, if_neg (by omega)]
    omega
theorem WQ_up {v : Nat → Int} (W : WQ v) {j : Nat} {x : Int} (h : (j = 1 ∧ 0 ≤ x ∧ x ≤ 8) ∨ (j = 2 ∧ 0 ≤ x ∧ x ≤ 5) ∨ (j = 3 ∧ 0 ≤ x ∧ x ≤ 3) ∨ (j = 14 ∧ 0 ≤ x ∧ x ≤ 23) ∨ (j = 15 ∧ 0 ≤ x ∧ x ≤ 7) ∨ ((18 ≤ j ∧ j < 42) ∧ 0 ≤ x ∧ x ≤ 9)) : WQ (upI v j x) := by
  obtain ⟨⟨w1, w2, w3, w4, w5, w13, w14, w15, w16, w17, w18⟩, Z, z17, z0, z13, z4⟩ := W
  have hq : ∀ q, upI v j x q = if q = j then x else v q := fun q => rfl
  have n4 : upI v j x 4 = v 4 := upI_n _ _ (by omega)
  refine ⟨⟨?_, ?_, ?_, ?_, ?_, ?_, ?_, ?_, ?_, ?_, ?_⟩, fun q hq2 => ?_, ?_, ?_, ?_, ?_⟩
  · rw [hq]; split <;> omega
  · rw [hq]; split <;> omega
  · rw [hq]; split <;> omega
  · rw [n4]; exact w4
  · intro i hi
    rw [n4] at hi
    omega
  · rw [hq]; split <;> omega
  · rw [hq]; split <;> omega
  · rw [hq]; split <;> omega
  · rw [hq]; split <;> omega
  · rw [hq]; split <;> omega
  · intro q hq2
    rw [hq]
    split
    · omega
    · exact w18 q hq2
  · rw [upI_n _ _ (by omega)]; exact Z q hq2
  · rw [upI_n _ _ (by omega)]; exact z17
  · rw [upI_n _ _ (by omega)]; exact z0
  · rw [upI_n _ _ (by omega)]; exact z13
  · rw [n4]; exact z4
theorem WQ.wp {v : Nat → Int} (W : WQ v) : WP v := ⟨W.1, W.2.1, W.2.2.1, W.2.2.2.1, by rw [W.2.2.2.2.1]; decide⟩
def PQ (S : PS) : Prop := ∀ v p, S = .ok (v, p) → WQ v
def Ag (K : Nat → Prop) (S S' : PS) : Prop := (∃ e, S = .error e ∧ S' = .error e) ∨ ∃ v v' p, S = .ok (v, p) ∧ S' = .ok (v', p) ∧ ∀ k, K k → v k = v' k
section
variable {L : Nat → Int} {S S' : PS} {K : Nat → Prop}
theorem PQ_sL (H : PQ S) (c : Int) : PQ (sL L c S) := fun v q hq => by
  obtain ⟨p, z1, -⟩ := sL_inv hq
  exact H v p z1
theorem PQ_sN (H : PQ S) (j : Nat) {lo hi : Int} (h : (j = 1 ∧ 0 ≤ lo ∧ hi ≤ 8) ∨ (j = 2 ∧ 0 ≤ lo ∧ hi ≤ 5) ∨ (j = 3 ∧ 0 ≤ lo ∧ hi ≤ 3) ∨ (j = 14 ∧ 0 ≤ lo ∧ hi ≤ 23) ∨ (j = 15 ∧ 0 ≤ lo ∧ hi ≤ 7)) : PQ (sN L j lo hi S) := fun v' q hq => by
  obtain ⟨v, p, z1, ok, z2, -⟩ := sN_inv hq
  rw [z2]
  have := ok.2
  exact WQ_up (H v p z1) (by omega)
theorem PQ_sD (H : PQ S) {j : Nat} (hj : j < 24) : PQ (sD L j S) := fun v' q hq => by
  obtain ⟨v, p, z1, ok, z2, -⟩ := sD_inv hq
  rw [z2]
  exact WQ_up (H v p z1) (by omega)
theorem Ag_sL (H : Ag K S S') (c : Int) : Ag K (sL L c S) (sL L c S') := by
  rcases H with ⟨e, rfl, rfl⟩ | ⟨v, v', p, rfl, rfl, hv⟩
  · exact Or.inl ⟨e, rfl, rfl⟩
  · by_cases h : L p = c
    · exact Or.inr ⟨v, v', p + 1, if_pos h, if_pos h, hv⟩
    · exact Or.inl ⟨(1, (p : Int)), if_neg h, if_neg h⟩
theorem Ag_sN (H : Ag K S S') (j : Nat) (lo hi : Int) : Ag (fun k => K k ∨ k = j) (sN L j lo hi S) (sN L j lo hi S') := by
  rcases H with ⟨e, rfl, rfl⟩ | ⟨v, v', p, rfl, rfl, hv⟩
  · exact Or.inl ⟨e, rfl, rfl⟩
  · by_cases h : okN L lo hi p
    · refine Or.inr ⟨_, _, p + dcN L p, sN_ok h, sN_ok h, fun k hk => ?_⟩
      by_cases c : k = j
      · rw [c, upI_s, upI_s]
      · rw [upI_n _ _ c, upI_n _ _ c]
        exact hv k (hk.resolve_right c)
    · exact Or.inl ⟨(kdN L p, (p : Int)), sN_no h, sN_no h⟩
theorem Ag_sD (H : Ag K S S') (j : Nat) : Ag (fun k => K k ∨ k = 18 + j) (sD L j S) (sD L j S') := by
  rcases H with ⟨e, rfl, rfl⟩ | ⟨v, v', p, rfl, rfl, hv⟩
  · exact Or.inl ⟨e, rfl, rfl⟩
  · by_cases h : 97 ≤ L p ∧ L p ≤ 106
    · refine Or.inr ⟨_, _, p + 1, sD_ok h, sD_ok h, fun k hk => ?_⟩
      by_cases c : k = 18 + j
      · rw [c, upI_s, upI_s]
      · rw [upI_n _ _ c, upI_n _ _ c]
        exact hv k (hk.resolve_right c)
    · exact Or.inl ⟨(1, (p : Int)), sD_no h, sD_no h⟩
theorem Ag.mono {K' : Nat → Prop} (H : Ag K S S') (h : ∀ k, K' k → K k) : Ag K' S S' := by
  rcases H with a | ⟨v, v', p, e1, e2, hv⟩
  · exact Or.inl a
  · exact Or.inr ⟨v, v', p, e1, e2, fun k hk => hv k (h k hk)⟩
theorem Ag_dF (H : Ag K S S') : ∀ i, Ag (fun k => K k ∨ (18 ≤ k ∧ k < 18 + i)) (dF L S i) (dF L S' i) := by
  intro i
  induction i with
  | zero => exact H.mono (fun k hk => by rcases hk with z | z; exact z; omega)
  | succ i ih => exact (Ag_sD ih i).mono (fun k hk => by
      rcases hk with z | z
      · exact Or.inl (Or.inl z)
      · by_cases c : k = 18 + i
        · exact Or.inr c
        · exact Or.inl (Or.inr (by omega)))
theorem PQ_dF (H : PQ S) : ∀ i, i ≤ 24 → PQ (dF L S i) := by
  intro i
  induction i with
  | zero => exact fun _ => H
  | succ i ih => exact fun hi => PQ_sD (ih (by omega)) (by omega)
noncomputable def pHead (L : Nat → Int) (S : PS) : PS := pBoat L (pDep L (pLaw L S))
theorem PQ_head (H : PQ S) : PQ (pHead L S) := by
  unfold pHead pBoat pDep pLaw
  refine PQ_sL (PQ_sN (PQ_sL (PQ_sN (PQ_sL (PQ_sL (PQ_dF (PQ_sL (PQ_sL (PQ_sN (PQ_sL (PQ_sN (PQ_sL (PQ_sN (PQ_sL H _) 1 (by omega)) _) 2 (by omega)) _) 3 (by omega)) _) _) 24 (by omega)) _) _) 14 (by omega)) _) 15 (by omega)) _
theorem Ag_head (H : Ag (fun k => ¬ (k = 1 ∨ k = 2 ∨ k = 3 ∨ k = 14 ∨ k = 15 ∨ (18 ≤ k ∧ k < 42))) S S') : pHead L S = pHead L S' := by
  have A := Ag_sL (L := L) (Ag_sN (L := L) (Ag_sL (L := L) (Ag_sN (L := L) (Ag_sL (L := L) (Ag_sL (L := L) (Ag_dF (L := L) (Ag_sL (L := L) (Ag_sL (L := L) (Ag_sN (L := L) (Ag_sL (L := L) (Ag_sN (L := L) (Ag_sL (L := L) (Ag_sN (L := L) (Ag_sL (L := L) H 119) 1 0 8) 44) 2 1 5) 44) 3 0 3) 59) 100) 24) 59) 98) 14 0 23) 44) 15 0 7) 59
  unfold pHead pBoat pDep pLaw
  rcases A with ⟨e, e1, e2⟩ | ⟨v, v', p, e1, e2, hv⟩
  · rw [e1, e2]
  · rw [e1, e2]
    have : v = v' := by
      funext k
      apply hv
      by_cases c1 : k = 1
      · exact Or.inl (Or.inl (Or.inl (Or.inl (Or.inl (Or.inr c1)))))
      by_cases c2 : k = 2
      · exact Or.inl (Or.inl (Or.inl (Or.inl (Or.inr c2))))
      by_cases c3 : k = 3
      · exact Or.inl (Or.inl (Or.inl (Or.inr c3)))
      by_cases c4 : 18 ≤ k ∧ k < 42
      · exact Or.inl (Or.inl (Or.inr ⟨c4.1, by omega⟩))
      by_cases c5 : k = 14
      · exact Or.inl (Or.inr c5)
      by_cases c6 : k = 15
      · exact Or.inr c6
      exact Or.inl (Or.inl (Or.inl (Or.inl (Or.inl (Or.inl (by omega))))))
    rw [this]
/-- all of a text -/
noncomputable def pAll (L : Nat → Int) : PS := pR L 200 (pHead L (.ok (vz, 0)))
end
section
variable {tp : Nat → Int} {n lf0 : Int} {F : Nat}
theorem pR_P (hn : 0 ≤ n ∧ n ≤ 120) (ht : ∀ k : Nat, (k : Int) < n → 0 ≤ tp k ∧ tp k ≤ 255) : ∀ (d : Nat) (S : PS), (∀ v p, S = .ok (v, p) → WP v) → ∀ v p, pR (Lt tp n) d S = .ok (v, p) → WP v := by
  intro d
  induction d with
  | zero => exact fun S hS v p h => hS v p h
  | succ d ih =>
    intro S hS v p h
    cases S with
    | error e => cases h
    | ok uq =>
      obtain ⟨u, q⟩ := uq
      have h : (if Lt tp n q = -1 then (.ok (u, q) : PS) else pR (Lt tp n) d (stp (Lt tp n) u q)) = .ok (v, p) := h
      by_cases c : Lt tp n q = -1
      · rw [if_pos c] at h
        cases h
        exact hS _ _ rfl
      · rw [if_neg c] at h
        exact ih _ (fun v' q' hq => (stp_ok hn ht (hS u q rfl) hq).2.2) v p h
theorem pAll_P (hn : 0 ≤ n ∧ n ≤ 120) (ht : ∀ k : Nat, (k : Int) < n → 0 ≤ tp k ∧ tp k ≤ 255) {v : Nat → Int} {p : Nat} (h : pAll (Lt tp n) = .ok (v, p)) : WP v := by
  refine pR_P hn ht 200 _ (fun u q hq => ?_) v p h
  exact (PQ_head (L := Lt tp n) (S := .ok (vz, 0)) (fun w r hr => by cases hr; exact vz_Q) u q hq).wp
theorem k_read (hF : 100 ≤ F) (hn : 0 ≤ n ∧ n ≤ 120) (ht : ∀ k : Nat, (k : Int) < n → 0 ≤ tp k ∧ tp k ≤ 255) {h : MH} {pl fa fp : Int} (X : TP h tp n pl fa fp lf0) (Tb0 : Tb h 29) (D : Dn h) : ∃ h' pl' fa' fp' lf', f_T_read F (some 8) (some 29) h = some (if fa' = 0 then 1 else 0, h') ∧ Fq 5 h h' ∧ TP h' tp 0 pl' fa' fp' lf' ∧ FS lf0 (pAll (Lt tp n)) pl' fa' fp' lf' ∧ Tb h' 29 ∧ ∀ v p, pAll (Lt tp n) = .ok (v, p) → Bs h' 29 v := by
  obtain ⟨h1, e1, c1, X1⟩ := t_p2 X 0
  obtain ⟨h2, e2, c2, X2⟩ := t_p3 X1 0
  have Tb2 := Tb0.ch (c1.tr c2) (by omega) (by omega)
  obtain ⟨h3, v0, e3, c3, Tb3, B3, hv0⟩ := k_clear Tb2
  have X3 : CH h3 tp n lf0 (.ok (v0, 0)) := by
    refine ⟨?_, Tb3, fun v p z => by cases z; exact B3⟩
    have : TS h2 tp n lf0 (.ok (v0, 0)) := TS.mk (p := 0) X2 (by omega)
    exact this.fr c3 (by omega)
  obtain ⟨h4, e4, f4, X4⟩ := k_law hF hn ht X3
  obtain ⟨h5, e5, f5, X5⟩ := k_deps hF hn ht X4
  obtain ⟨h6, e6, f6, X6⟩ := k_boat hF hn ht X5
  have hag : pBoat (Lt tp n) (pDep (Lt tp n) (pLaw (Lt tp n) (.ok (v0, 0)))) = pHead (Lt tp n) (.ok (vz, 0)) := Ag_head (S := .ok (v0, 0)) (S' := .ok (vz, 0)) (Or.inr ⟨v0, vz, 0, rfl, rfl, fun k hk => hv0 k hk⟩)
  rw [hag] at X6
  have hQ := PQ_head (L := Lt tp n) (S := .ok (vz, 0)) (fun w r hr => by cases hr; exact vz_Q)
  obtain ⟨h7, S7, e7, f7, X7, p7, q7⟩ := k_mo (F := F) hF hn ht 5 0 F h6 _ rfl (by omega) X6 (fun v p z => by
    have q := hQ v p z
    exact ⟨q.wp, q.2.2.2.2.2, by rw [q.2.2.2.2.1]; decide⟩)
  have fall : Fh h2 h7 := (c3.fh (by omega)).tr (f4.tr (f5.tr (f6.tr f7)))
  have hk : ∀ (a b : MH), Fh a b → Fq 0 a b := fun a b f => by
    refine ⟨?_, ?_, fun j _ q2 q3 q4 q5 => f.2 j q2 q3 q4, fun D => ?_⟩
    · rw [f.1]; omega
    · rw [f.1]; omega
    · refine ⟨by rw [f.1]; exact D.1, fun p hp => ?_⟩
      rw [f.1] at hp
      have := D.1
      rw [f.2 p (by omega) (by omega) (by omega)]
      exact D.2 p hp
  have F7 : Fq 0 h h7 := ((c1.tr c2).fq (by omega)).tr (hk _ _ fall) (by omega)
  have D7 : Dn h7 := F7.2.2.2 D
  have B7 : CB h7 tp n lf0 S7 := by
    refine ⟨X7.1, X7.2.1, fun v p z => ?_⟩
    have B := X7.2.2 v p z
    obtain ⟨-, h4, -⟩ := q7 v p z
    obtain ⟨t, f, g, t1, t2, t3, t4, t5⟩ := X7.2.1
    exact ⟨B.1, B.2, g, t4, fun i hi => by omega⟩
  obtain ⟨h8, e8, f8, X8⟩ := k_ha (F := F) hF hn ht 5 0 F h7 S7 rfl (by omega) D7 B7 (fun v p z => by
    obtain ⟨a1, a2, a3⟩ := q7 v p z
    exact ⟨a1, a2, fun y => a3 y.1⟩)
  rw [p7] at X8
  obtain ⟨⟨pl', fa', fp', lf', Y, bb, ff⟩, Tb8, Bs8⟩ := X8
  obtain ⟨h9, e9, c9, Y9⟩ := t_p1 Y 0
  have hfa : 0 ≤ fa' ∧ fa' ≤ 3 := by
    cases hP : pR (Lt tp n) 200 (pHead (Lt tp n) (.ok (vz, 0))) with
    | ok vp =>
      rw [hP] at ff
      obtain ⟨f1, f2, f3⟩ := ff
      omega
    | error e =>
      rw [hP] at ff
      obtain ⟨f1, f2, f3, f4, f5⟩ := ff
      omega
  have x0 : zI fa' = (0 : Int32) ↔ fa' = 0 := zI_eq (b := 0) (by omega) (by omega) (by omega) (by omega)
  refine ⟨h9, pl', fa', fp', lf', ?_, (F7.tr f8 (c := 5) (by omega)).tr (c9.fq (by omega)) (by omega), Y9, ff, Tb8.ch c9 (by omega) (by omega), fun v p z => (Bs8 v p z).fr (c9.hk (by omega)) (c9.2 _ (by omega)) (c9.2 _ (by omega)) (c9.2 _ (by omega))⟩
  have b_on2 : ∀ x : Option MH, onc h2 (some 29) 1 x = x := by
    intro x
    obtain ⟨t, f, g, t1, -⟩ := Tb2
    exact b_on t1 x
  have e7' : f_T_readMoored F (some 8) (some 29) h6 = some h7 := e7
  have e8' : f_T_readHands F (some 8) (some 29) h7 = some h8 := e8
  unfold f_T_read
  rw [show (Value.int (0 : Int32)) = Value.int (zI 0) from rfl, e1, bd, e2, bd, b_on2, e3, bd, X3.on, e4, bd, X4.on, e5, bd, X5.on, e6, bd, X6.on, e7', bd, X7.on, e8', bd, e9, bd, (t_g Y9).2, bd]
  simp only [x0]
  by_cases c : fa' = 0
  · rw [if_pos c, if_pos c]
  · rw [if_neg c, if_neg c]
end
