/-! ===== rules of arrays, of making, of the static arrays, of instanceof, of arraycopy ===== -/
section GO3
variable {mi : MI} {d : Nat} {h0 : MH} {pc pc1 pc2 : Nat} {lv lv2 : List (Nat × Value)} {st st1 st2 : List Value} {h h1 h2 : MH}
theorem mj_arr_spec {o : Option Nat} {q : Nat × Nat × (Nat → Int32)} (hq : mj_arr h o = some q) : ∃ a, o = some a ∧ h.1 a = .inl q := by
  cases o with
  | none => simp [mj_arr] at hq
  | some a =>
    simp only [mj_arr] at hq
    split at hq
    · next q e => cases hq; exact ⟨a, rfl, e⟩
    · cases hq
theorem mj_arq_spec {o : Option Nat} {q : Nat × Nat × (Nat → Option Nat)} (hq : mj_arq h o = some q) : ∃ a, o = some a ∧ h.1 a = .inr (.inl q) := by
  cases o with
  | none => simp [mj_arq] at hq
  | some a =>
    simp only [mj_arq] at hq
    split at hq
    · next q e => cases hq; exact ⟨a, rfl, e⟩
    · cases hq
theorem mj_nn {i : Int32} {n : Nat} (h1 : 0 ≤ i) (h2 : i.toNatClampNeg < n) : ¬ (i < 0 ∨ n ≤ i.toNatClampNeg) := fun z => z.elim (fun z => absurd z (Int32.not_lt.mpr h1)) (fun z => Nat.not_le.mpr h2 z)
theorem go_iald {o : Option Nat} {i x : Int32} (hd : decode mi.2.1 pc = .ok (.iaload, 1)) (hg : ald h o 0 i = some x) (B : Go mi d h0 (pc + 1) lv (.int x :: st) h pc2 lv2 st2 h2) : Go mi d h0 pc lv (.int i :: va_rf o :: st) h pc2 lv2 st2 h2 := by
  unfold ald at hg
  obtain ⟨⟨t, n, f⟩, hq, hk⟩ := Option.bind_eq_some_iff.mp hg
  dsimp only at hk
  by_cases hc : t = 0 ∧ 0 ≤ i ∧ i.toNatClampNeg < n
  · rw [if_pos hc] at hk
    obtain ⟨rfl, c1, c2⟩ := hc
    obtain ⟨a, rfl, ha⟩ := mj_arr_spec hq
    have hx : f i.toNatClampNeg = x := Option.some.inj hk
    refine Go.one (fun G p e R s m args below meth c Q cells slots H locs ls hF hX g3 g4 hR hl K => ?_) B
    rcases Nat.lt_or_ge a 3 with h3 | h3
    · obtain ⟨n', f', e1, scr, e2, e3, e4, e5, -, e6⟩ := hR.2.2.2.2.1 a h3
      rw [ha] at e1
      cases e1
      exact W.iald (v := .int x) hF.1 hF.2.1 e2 e3 e4 (mj_nn c1 (Nat.lt_of_lt_of_le c2 e5)) (by rw [e6 _ c2, hx]) rfl rfl hd (K ls hl)
    · obtain ⟨hlt, hc⟩ := mj_arr_at hR ha h3
      exact W.iald (v := .int x) hF.1 hF.2.1 hc ((hX.1.2 0 _ (mj_tys_at G (by decide))).1 n (fun j => .int (f j))) (fun q => by cases q) (by show ¬ (i < 0 ∨ (arrV _ _ _).slots.size ≤ _); rw [arrV_size]; exact mj_nn c1 c2) (by show (arrV _ _ _).slots[_]? = _; rw [arrV_read _ _ c2, hx]) rfl rfl hd (K ls hl)
  · rw [if_neg hc] at hk; cases hk
theorem go_zald {o : Option Nat} {i x : Int32} (hd : decode mi.2.1 pc = .ok (.baload, 1)) (hg : ald h o 1 i = some x) (B : Go mi d h0 (pc + 1) lv (.int x :: st) h pc2 lv2 st2 h2) : Go mi d h0 pc lv (.int i :: va_rf o :: st) h pc2 lv2 st2 h2 := by
  unfold ald at hg
  obtain ⟨⟨t, n, f⟩, hq, hk⟩ := Option.bind_eq_some_iff.mp hg
  dsimp only at hk
  by_cases hc : t = 1 ∧ 0 ≤ i ∧ i.toNatClampNeg < n
  · rw [if_pos hc] at hk
    obtain ⟨rfl, c1, c2⟩ := hc
    obtain ⟨a, rfl, ha⟩ := mj_arr_spec hq
    have hx : f i.toNatClampNeg = x := Option.some.inj hk
    refine Go.one (fun G p e R s m args below meth c Q cells slots H locs ls hF hX g3 g4 hR hl K => ?_) B
    rcases Nat.lt_or_ge a 3 with h3 | h3
    · obtain ⟨n', f', e1, -⟩ := hR.2.2.2.2.1 a h3
      rw [ha] at e1
      cases e1
    · obtain ⟨hlt, hc⟩ := mj_arr_at hR ha h3
      exact W.zald (v := .int x) hF.1 hF.2.1 hc ((hX.1.2 1 _ (mj_tys_at G (by decide))).1 n (fun j => .int (f j))) (fun q => by cases q) (by show ¬ (i < 0 ∨ (arrV _ _ _).slots.size ≤ _); rw [arrV_size]; exact mj_nn c1 c2) (by show (arrV _ _ _).slots[_]? = _; rw [arrV_read _ _ c2, hx]) rfl rfl hd (K ls hl)
  · rw [if_neg hc] at hk; cases hk
theorem go_iast {o : Option Nat} {i x : Int32} (hd : decode mi.2.1 pc = .ok (.iastore, 1)) (hg : ast h o 0 i x = some h1) (B : Go mi d h0 (pc + 1) lv st h1 pc2 lv2 st2 h2) : Go mi d h0 pc lv (.int x :: .int i :: va_rf o :: st) h pc2 lv2 st2 h2 := by
  unfold ast at hg
  obtain ⟨⟨t, n, f⟩, hq, hk⟩ := Option.bind_eq_some_iff.mp hg
  dsimp only at hk
  by_cases hc : t = 0 ∧ 3 ≤ o.getD 0 ∧ 0 ≤ i ∧ i.toNatClampNeg < n
  · rw [if_pos hc] at hk
    obtain ⟨rfl, h3, c1, c2⟩ := hc
    obtain ⟨a, rfl, ha⟩ := mj_arr_spec hq
    have h3 : 3 ≤ a := h3
    have hh1 : h1 = mj_up h a (.inl (0, n, upd f i.toNatClampNeg x)) := (Option.some.inj hk).symm
    refine Go.wr (by rw [hh1]; rfl) (fun G p e R s m args below meth cd Q cells slots H locs ls hF hX g3 g4 hR hl K => ?_) B
    obtain ⟨hlt, hc⟩ := mj_arr_at hR ha h3
    refine W.iast hF.1 hF.2.1 hc ((hX.1.2 0 _ (mj_tys_at G (by decide))).1 n (fun j => .int (f j))) (fun q => by cases q) (by show ¬ (i < 0 ∨ (arrV _ _ _).slots.size ≤ _); rw [arrV_size]; exact mj_nn c1 c2) rfl rfl hd fun H1 e z oq => ?_
    refine K H1 _ ?_
    rw [hh1]
    refine hR.put hX h3 hlt ?_ z oq (fun q hq => by rw [List.mem_singleton.mp hq])
    show H1[G.ad a]? = some (vp_cell _ _)
    rw [e]
    rw [vp_cell_i, vp_cell_i, arrV_store]
    congr 2
    funext q
    by_cases hq : q = i.toNatClampNeg
    · subst hq
      simp [updV, upd]
    · simp [updV, upd, hq]
  · rw [if_neg hc] at hk; cases hk
theorem go_zast {o : Option Nat} {i x : Int32} (hd : decode mi.2.1 pc = .ok (.bastore, 1)) (hx : vp_nar .boolean x = x) (hg : ast h o 1 i x = some h1) (B : Go mi d h0 (pc + 1) lv st h1 pc2 lv2 st2 h2) : Go mi d h0 pc lv (.int x :: .int i :: va_rf o :: st) h pc2 lv2 st2 h2 := by
  unfold ast at hg
  obtain ⟨⟨t, n, f⟩, hq, hk⟩ := Option.bind_eq_some_iff.mp hg
  dsimp only at hk
  by_cases hc : t = 1 ∧ 3 ≤ o.getD 0 ∧ 0 ≤ i ∧ i.toNatClampNeg < n
  · rw [if_pos hc] at hk
    obtain ⟨rfl, h3, c1, c2⟩ := hc
    obtain ⟨a, rfl, ha⟩ := mj_arr_spec hq
    have h3 : 3 ≤ a := h3
    have hh1 : h1 = mj_up h a (.inl (1, n, upd f i.toNatClampNeg x)) := (Option.some.inj hk).symm
    refine Go.wr (by rw [hh1]; rfl) (fun G p e R s m args below meth cd Q cells slots H locs ls hF hX g3 g4 hR hl K => ?_) B
    obtain ⟨hlt, hc⟩ := mj_arr_at hR ha h3
    refine W.zast hF.1 hF.2.1 hc ((hX.1.2 1 _ (mj_tys_at G (by decide))).1 n (fun j => .int (f j))) (fun q => by cases q) (by show ¬ (i < 0 ∨ (arrV _ _ _).slots.size ≤ _); rw [arrV_size]; exact mj_nn c1 c2) rfl rfl hd fun H1 e z oq => ?_
    refine K H1 _ ?_
    rw [hh1]
    refine hR.put hX h3 hlt ?_ z oq (fun q hq => by rw [List.mem_singleton.mp hq])
    show H1[G.ad a]? = some (vp_cell _ _)
    rw [e]
    rw [vp_cell_i, vp_cell_i, arrV_store]
    congr 2
    funext q
    by_cases hq : q = i.toNatClampNeg
    · subst hq
      have hx' : narrow FieldType.boolean (Value.int x) = Value.int x := congrArg Value.int hx
      simp [updV, upd, hx']
    · simp [updV, upd, hq]
  · rw [if_neg hc] at hk; cases hk
theorem go_alen {o : Option Nat} {x : Int32} (hd : decode mi.2.1 pc = .ok (.arraylength, 1)) (hg : alen h o = some x) (B : Go mi d h0 (pc + 1) lv (.int x :: st) h pc2 lv2 st2 h2) : Go mi d h0 pc lv (va_rf o :: st) h pc2 lv2 st2 h2 := by
  cases o with
  | none => simp [alen] at hg
  | some a =>
    refine Go.one (fun G p e R s m args below meth c Q cells slots H locs ls hF hX g3 g4 hR hl K => ?_) B
    simp only [alen] at hg
    split at hg
    · next q ha =>
      obtain ⟨t, n, f⟩ := q
      by_cases hc : t < 2
      · rw [if_pos hc] at hg
        have hx : Int32.ofNat n = x := Option.some.inj hg
        rcases Nat.lt_or_ge a 3 with h3 | h3
        · obtain ⟨n', f', e1, scr, e2, e3, e4, e5, e5', e6⟩ := hR.2.2.2.2.1 a h3
          rw [ha] at e1
          cases e1
          exact W.alen (n := x) hF.1 hF.2.1 e2 e3 (e5'.trans hx) rfl rfl hd (K ls hl)
        · obtain ⟨hlt, hcl⟩ := mj_arr_at hR ha h3
          exact W.alen (n := x) hF.1 hF.2.1 hcl ((hX.1.2 t _ (mj_tys_at G (by omega))).1 n (fun j => .int (f j))) (by rw [vp_cell_i, arrV_size, ← hx] <;> rfl) rfl rfl hd (K ls hl)
      · rw [if_neg hc] at hg; cases hg
    · next q ha =>
      obtain ⟨t, n, f⟩ := q
      by_cases hc : t = 2 ∨ t = 3
      · rw [if_pos hc] at hg
        have hx : Int32.ofNat n = x := Option.some.inj hg
        obtain ⟨h3, hlt, hcl⟩ := mj_arq_at hR ha
        exact W.alen (n := x) hF.1 hF.2.1 hcl ((hX.1.2 t _ (mj_tys_at G (by omega))).1 n (fun j => va_rf ((f j).map G.ad))) (by rw [vp_cell_q, arrV_size, ← hx] <;> rfl) rfl rfl hd (K ls hl)
      · rw [if_neg hc] at hg; cases hg
    · cases hg
theorem go_qld {o r : Option Nat} {t : Nat} {i : Int32} (ht : t = 2 ∨ t = 3) (hd : decode mi.2.1 pc = .ok (.aaload, 1)) (hg : qld h o t i = some r) (B : Go mi d h0 (pc + 1) lv (va_rf r :: st) h pc2 lv2 st2 h2) : Go mi d h0 pc lv (.int i :: va_rf o :: st) h pc2 lv2 st2 h2 := by
  unfold qld at hg
  obtain ⟨⟨t', n, f⟩, hq, hk⟩ := Option.bind_eq_some_iff.mp hg
  dsimp only at hk
  by_cases hc : t' = t ∧ 0 ≤ i ∧ i.toNatClampNeg < n
  · rw [if_pos hc] at hk
    obtain ⟨rfl, c1, c2⟩ := hc
    obtain ⟨a, rfl, ha⟩ := mj_arq_spec hq
    have hx : f i.toNatClampNeg = r := Option.some.inj hk
    refine Go.one (fun G p e R s m args below meth c Q cells slots H locs ls hF hX g3 g4 hR hl K => ?_) B
    obtain ⟨h3, hlt, hcl⟩ := mj_arq_at hR ha
    have hty : (mj_aty t').isReference = true := by rcases ht with rfl | rfl <;> rfl
    have K' := K ls hl
    rw [List.map_cons, mj_vrf] at K'
    exact W.aald (v := va_rf (r.map G.ad)) (ty := mj_aty t') hF.1 hF.2.1 hcl ((hX.1.2 t' _ (mj_tys_at G (by omega))).1 n (fun j => va_rf ((f j).map G.ad))) hty (fun q => by cases q) (by show ¬ (i < 0 ∨ (arrV _ _ _).slots.size ≤ _); rw [arrV_size]; exact mj_nn c1 c2) (by show (arrV _ _ _).slots[_]? = _; rw [arrV_read _ _ c2]; dsimp only; rw [hx]) rfl rfl hd K'
  · rw [if_neg hc] at hk; cases hk
theorem mj_asg {s : State} {C E : String} (h : va_Nw (.castable C E) s) : ∀ comp c0 : ClassId, s.vm.findClass E = some comp → s.vm.findClass C = some c0 → s.vm.assignable c0 comp = true := by
  intro comp c0 h1 h2
  obtain ⟨c3, t3, w1, w2, w3⟩ := Cond.castable_spec (args := #[]) (s := s) h
  cases h2.symm.trans w1
  cases h1.symm.trans w2
  exact w3
/-- which classes may stand in a row of t -/
def mj_fits (t c : Nat) : Bool := match mj_cl[c]? with
  | some q => match mj_aty t with
    | .object E => decide (q.1 = E) || decide (Cond.castable q.1 E ∈ mj_bad)
    | _ => false
  | none => false
theorem go_qst {o v : Option Nat} {t : Nat} {cs : List Nat} {i : Int32} (ht : t = 2 ∨ t = 3) (hcs : ∀ c ∈ cs, mj_fits t c = true) (hd : decode mi.2.1 pc = .ok (.aastore, 1)) (hg : qst h o t cs i v = some h1) (B : Go mi d h0 (pc + 1) lv st h1 pc2 lv2 st2 h2) : Go mi d h0 pc lv (va_rf v :: .int i :: va_rf o :: st) h pc2 lv2 st2 h2 := by
  unfold qst at hg
  obtain ⟨⟨t', n, f⟩, hq, hk⟩ := Option.bind_eq_some_iff.mp hg
  dsimp only at hk
  by_cases hc : t' = t ∧ 0 ≤ i ∧ i.toNatClampNeg < n ∧ mj_clo h v cs = true
  · rw [if_pos hc] at hk
    obtain ⟨rfl, c1, c2, c3⟩ := hc
    obtain ⟨a, rfl, ha⟩ := mj_arq_spec hq
    have hh1 : h1 = mj_up h a (.inr (.inl (t', n, va_up f i.toNatClampNeg v))) := (Option.some.inj hk).symm
    refine Go.wr (by rw [hh1]; rfl) (fun G p e R s m args below meth cd Q cells slots H locs ls hF hX g3 g4 hR hl K => ?_) B
    obtain ⟨h3, hlt, hcl⟩ := mj_arq_at hR ha
    have fin' : ∀ (H1 : Heap), H1[G.ad a]? = some ((vp_cell (G.cA t') (n, .inr (.inr (.inr (.inr (fun j => (f j).map G.ad)))))).setSlot i.toNatClampNeg (va_rf (v.map G.ad))) → H1.size = H.size → (∀ q, q ≠ G.ad a → H1[q]? = H[q]?) → W p G.l e R s m args below meth cd H1 (locs ++ [⟨G.ad a, i.toNatClampNeg⟩]) cells slots Q (F0 m (pc + 1) ls (st.map (mj_v G.ad))) := by
      intro H1 e z oq
      refine K H1 _ ?_
      rw [hh1]
      refine hR.put hX h3 hlt ?_ z oq (fun q hq => by rw [List.mem_singleton.mp hq])
      show H1[G.ad a]? = some (vp_cell _ _)
      rw [e]
      rw [vp_cell_q, vp_cell_q, arrV_store]
      congr 2
      funext q
      by_cases hq : q = i.toNatClampNeg
      · subst hq
        simp [updV, va_up]
      · simp [updV, va_up, hq]
    obtain ⟨E, hE⟩ : ∃ E, mj_aty t' = .object E := by rcases ht with rfl | rfl <;> exact ⟨_, rfl⟩
    have harr := hX.1.2 t' _ (mj_tys_at G (by omega))
    dsimp only at harr
    rw [hE] at harr
    cases v with
    | none =>
      refine va_WaastN (C := E) hF.1 hF.2.1 hcl (harr.1 n (fun j => va_rf ((f j).map G.ad))) (fun h => by cases h) (by show ¬ (i < 0 ∨ (arrV _ _ _).slots.size ≤ _); rw [arrV_size]; exact mj_nn c1 c2) rfl rfl hd fun H1 e z oq => ?_
      exact fin' H1 e z oq
    | some b =>
      unfold mj_clo at c3
      split at c3
      · next q hq =>
        obtain ⟨ci, fs⟩ := q
        rw [Bool.and_eq_true, decide_eq_true_eq] at c3
        dsimp only at c3
        have hb : h.1 b = .inr (.inr (ci, fs)) := by
          simp only [mj_obj] at hq
          split at hq
          · next q e => cases hq; exact e
          · cases hq
        obtain ⟨b3, blt, bat⟩ := mj_obj_at hR hb c3.2
        have hfit := hcs ci (List.contains_iff_mem.mp c3.1)
        unfold mj_fits at hfit
        cases hcq : mj_cl[ci]? with
        | none => rw [hcq] at hfit; cases hfit
        | some r =>
          rw [hcq] at hfit
          dsimp only at hfit
          rw [hE] at hfit
          dsimp only at hfit
          rw [Bool.or_eq_true, decide_eq_true_eq, decide_eq_true_eq] at hfit
          have hasg : ∀ comp c0 : ClassId, s.vm.findClass E = some comp → s.vm.findClass r.1 = some c0 → s.vm.assignable c0 comp = true := by
            rcases hfit with hfit | hfit
            · intro comp c0 w1 w2
              rw [hfit] at w2
              cases w1.symm.trans w2
              have := (hX.1.1 ci _ hcq).2
              rw [hfit] at this
              have h5 := va_assign this
              cases w1.symm.trans this.1
              exact h5
            · exact mj_asg (hX.2.2.2.1 _ hfit)
          obtain ⟨cellV, g1, g3, ⟨kC, hkC⟩, hasg⟩ := va_rAny hX.1 (mj_P1 bat) (q0 := 0) rfl hcq hasg
          obtain ⟨kA, comp, k1, k2, k3, -⟩ := harr.2
          obtain ⟨kE, hkE, -⟩ := Vm.findClass_spec k3
          refine W.aast hF.1 hF.2.1 hcl (fun q h => by cases h) (fun h => by cases h) k1 k2 rfl hkE ⟨fun q => absurd q (Int32.not_lt.mpr c1), by show _ < (arrV _ _ _).slots.size; rw [arrV_size]; exact c2⟩ g1 (fun q h => by rw [h] at g3; cases g3) hkC (hasg _ k3) rfl rfl hd fun H1 e z oq => ?_
          exact fin' H1 e z oq
      · cases c3
  · rw [if_neg hc] at hk; cases hk
end GO3
