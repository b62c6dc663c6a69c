/-! ===== rules of the instructions that read or write the heap ===== -/
section GO2
variable {mi : MI} {d : Nat} {h0 : MH} {pc pc1 pc2 : Nat} {lv lv2 : List (Nat × Value)} {st st1 st2 : List Value} {h h1 h2 : MH}
theorem Go.wr (e1 : h1.2 = h.2)
    (A : ∀ (G : CX) (p : Program) (e : Env) (R : Room) (s : State) (m : MethodId) (args : Array Value) (below : List Frame) (meth : Method) (c : Code) (Q : State → Prop) (cells slots : Nat) (H : Heap) (locs : List Loc) (ls : Array Slot),
      mj_Fr mi p s m args meth c → mj_Fx G s → 64 * d ≤ R.locals → d ≤ R.frames → mj_Rep G s h H locs → lv_has ls mi.2.2.1 (mj_l G.ad lv) →
      (∀ (H1 : Heap) (locs1 : List Loc), mj_Rep G s h1 H1 locs1 → W p G.l e R s m args below meth c H1 locs1 cells slots Q (F0 m pc1 ls (st1.map (mj_v G.ad)))) →
      W p G.l e R s m args below meth c H locs cells slots Q (F0 m pc ls (st.map (mj_v G.ad))))
    (B : Go mi d h0 pc1 lv st1 h1 pc2 lv2 st2 h2) : Go mi d h0 pc lv st h pc2 lv2 st2 h2 := by
  obtain ⟨b1, b2, b3⟩ := B
  obtain ⟨x1, x2, x3⟩ := h
  obtain ⟨y1, y2, y3⟩ := h1
  dsimp only at e1
  obtain ⟨rfl, rfl⟩ := Prod.mk.inj e1
  refine ⟨b1, b2, fun G p e R s m args below meth c Q hF hX g1 g2 g3 g4 g5 g6 hQ H locs ls hR hl => ?_⟩
  exact A G p e R s m args below meth c Q _ _ H locs ls hF hX g4 g3 hR hl (fun H1 locs1 hR1 => b3 G p e R s m args below meth c Q hF hX g1 g2 g3 g4 g5 g6 hQ H1 locs1 ls hR1 hl)
theorem Go.al {n : Nat} (e1 : h1.2.1 = h.2.1 + 1) (e2 : h1.2.2 = h.2.2 + n)
    (A : ∀ (G : CX) (p : Program) (e : Env) (R : Room) (s : State) (m : MethodId) (args : Array Value) (below : List Frame) (meth : Method) (c : Code) (Q : State → Prop) (cells slots : Nat) (H : Heap) (locs : List Loc) (ls : Array Slot),
      mj_Fr mi p s m args meth c → mj_Fx G s → cells + 1 ≤ R.cells → slots + n ≤ R.slots → mj_Rep G s h H locs → lv_has ls mi.2.2.1 (mj_l G.ad lv) →
      (∀ (H1 : Heap), mj_Rep G s h1 H1 locs → W p G.l e R s m args below meth c H1 locs (cells + 1) (slots + n) Q (F0 m pc1 ls (st1.map (mj_v G.ad)))) →
      W p G.l e R s m args below meth c H locs cells slots Q (F0 m pc ls (st.map (mj_v G.ad))))
    (B : Go mi d h0 pc1 lv st1 h1 pc2 lv2 st2 h2) : Go mi d h0 pc lv st h pc2 lv2 st2 h2 := by
  obtain ⟨b1, b2, b3⟩ := B
  refine ⟨by omega, by omega, fun G p e R s m args below meth c Q hF hX g1 g2 g3 g4 g5 g6 hQ H locs ls hR hl => ?_⟩
  refine A G p e R s m args below meth c Q _ _ H locs ls hF hX (by omega) (by omega) hR hl (fun H1 hR1 => ?_)
  have := b3 G p e R s m args below meth c Q hF hX (by omega) (by omega) g3 g4 g5 g6 hQ H1 locs ls hR1 hl
  rw [e1, e2, Nat.sub_add_comm g1, Nat.sub_add_comm g2] at this
  exact this
theorem mj_P1 {D : va_G} {cl : List vw_C} {q : Nat × va_E} {H : Heap} (h : va_at D cl q H) : va_P D cl [q] H := by
  intro k r hk
  have hz : k < 1 := (List.getElem?_eq_some_iff.mp hk).1
  rw [show k = 0 by omega] at hk
  cases hk
  exact h
theorem go_get {idx : Nat} {o : Option Nat} {cs : List Nat} {k : Nat} {v : Value} {ref nm desc : String} {fin : Bool} (hd : decode mi.2.1 pc = .ok (.getfield idx, 3)) (hcs : ∀ c ∈ cs, mj_fd c k = some (ref, nm, desc, fin)) (hw : Cond.fieldLink mi.1.cls idx ref nm desc ∈ mj_tbl) (hg : mj_get h o cs k = some v) (B : Go mi d h0 (pc + 3) lv (v :: st) h pc2 lv2 st2 h2) : Go mi d h0 pc lv (va_rf o :: st) h pc2 lv2 st2 h2 := by
  unfold mj_get at hg
  obtain ⟨⟨c, fs⟩, hq, hk⟩ := Option.bind_eq_some_iff.mp hg
  dsimp only at hk
  have hcc : cs.contains c = true := by
    cases hb : cs.contains c with
    | true => rfl
    | false => simp only [hb] at hk; simp at hk
  rw [if_pos hcc] at hk
  cases o with
  | none => simp [mj_obj] at hq
  | some a =>
    have ha : h.1 a = .inr (.inr (c, fs)) := by
      simp only [mj_obj] at hq
      split at hq
      · next q e => cases hq; exact e
      · cases hq
    have hne : fs ≠ [] := fun e => by rw [e] at hk; simp at hk
    obtain ⟨⟨C, T, N⟩, hcl, hkN, hT⟩ := mj_fd_spec (hcs c (List.contains_iff_mem.mp hcc))
    dsimp only at hkN hT
    refine Go.one (fun G p e R s m args below meth c Q cells slots H locs ls hF hX g3 g4 hR hl K => ?_) B
    obtain ⟨h3, hlt, hat⟩ := mj_obj_at hR ha hne
    refine va_get (ref := ref) hF.1 hF.2.1 hF.2.2.2.2.1 (mj_cl_in hcl) hF.2.2.2.1 hX.1 (mj_P1 hat) 0 rfl hcl k hkN (by dsimp only; rw [hT]; exact hF.2.2.2.2.1 _ hw) (by dsimp only; rw [hT]; exact fun _ z => z) (v := mj_v G.ad v) (by rw [List.getElem?_map, hk]; rfl) hd (K ls hl)
theorem go_gfi {idx : Nat} {o : Option Nat} {cs : List Nat} {k : Nat} {x : Int32} {ref nm desc : String} {fin : Bool} (hd : decode mi.2.1 pc = .ok (.getfield idx, 3)) (hcs : ∀ c ∈ cs, mj_fd c k = some (ref, nm, desc, fin)) (hw : Cond.fieldLink mi.1.cls idx ref nm desc ∈ mj_tbl) (hg : gfi h o cs k = some x) (B : Go mi d h0 (pc + 3) lv (.int x :: st) h pc2 lv2 st2 h2) : Go mi d h0 pc lv (va_rf o :: st) h pc2 lv2 st2 h2 := by
  obtain ⟨v, hv, hi⟩ := Option.bind_eq_some_iff.mp hg
  rw [mj_int_eq hi] at hv
  exact go_get hd hcs hw hv B
theorem go_gfr {idx : Nat} {o r : Option Nat} {cs : List Nat} {k : Nat} {ref nm desc : String} {fin : Bool} (hd : decode mi.2.1 pc = .ok (.getfield idx, 3)) (hcs : ∀ c ∈ cs, mj_fd c k = some (ref, nm, desc, fin)) (hw : Cond.fieldLink mi.1.cls idx ref nm desc ∈ mj_tbl) (hg : gfr h o cs k = some r) (B : Go mi d h0 (pc + 3) lv (va_rf r :: st) h pc2 lv2 st2 h2) : Go mi d h0 pc lv (va_rf o :: st) h pc2 lv2 st2 h2 := by
  obtain ⟨v, hv, hi⟩ := Option.bind_eq_some_iff.mp hg
  rw [mj_ref_eq hi] at hv
  exact go_get hd hcs hw hv B
theorem go_put {idx : Nat} {o : Option Nat} {cs : List Nat} {k : Nat} {v : Value} {ref nm desc : String} {fin : Bool} {ty : FieldType} (hd : decode mi.2.1 pc = .ok (.putfield idx, 3)) (hcs : ∀ c ∈ cs, mj_fd c k = some (ref, nm, desc, fin)) (hw : Cond.fieldLink mi.1.cls idx ref nm desc ∈ mj_tbl) (hfin : fin = true → mi.1.name = "<init>" ∧ ref = mi.1.cls) (hty : parseFieldDescriptor desc = some ty) (hn : ∀ ad, narrow ty (mj_v ad v) = mj_v ad v) (hf : ∀ ad, fits ty (mj_v ad v) = true) (hg : pfv h o cs k v = some h1) (B : Go mi d h0 (pc + 3) lv st h1 pc2 lv2 st2 h2) : Go mi d h0 pc lv (v :: va_rf o :: st) h pc2 lv2 st2 h2 := by
  unfold pfv at hg
  obtain ⟨⟨c, fs⟩, hq, hk⟩ := Option.bind_eq_some_iff.mp hg
  dsimp only at hk
  by_cases hcc : cs.contains c = true ∧ k < fs.length
  · rw [if_pos hcc] at hk
    obtain ⟨hcc, hkl⟩ := hcc
    cases o with
    | none => simp [mj_obj] at hq
    | some a =>
      have ha : h.1 a = .inr (.inr (c, fs)) := by
        simp only [mj_obj] at hq
        split at hq
        · next q e => cases hq; exact e
        · cases hq
      have hne : fs ≠ [] := fun e => by rw [e] at hkl; simp at hkl
      have hh1 : h1 = mj_up h a (.inr (.inr (c, fs.set k v))) := (Option.some.inj hk).symm
      obtain ⟨⟨C, T, N⟩, hcl, hkN, hT⟩ := mj_fd_spec (hcs c (List.contains_iff_mem.mp hcc))
      dsimp only at hkN hT
      obtain ⟨hin0, ⟨ty0, hty0⟩, hnm⟩ := mj_oks _ (List.mem_of_getElem? hcl)
      dsimp only at hin0 hty0 hnm
      refine Go.wr (by rw [hh1]; rfl) (fun G p e R s m args below meth cd Q cells slots H locs ls hF hX g3 g4 hR hl K => ?_) B
      obtain ⟨h3, hlt, hat⟩ := mj_obj_at hR ha hne
      have hts := hF.2.2.2.2.1
      have hin := mj_cl_in hcl
      have hown := hF.2.2.2.1
      have hap := va_apart (own := mi.1.cls) hts hin ty0 hty0 hnm hX.1 hcl
      obtain ⟨r, hr1, cell, q1, q2, q3, q4⟩ := hat
      have hr : r = (C, T, N) := Option.some.inj (hr1.symm.trans hcl)
      subst hr
      dsimp only at q1 q2 q3 q4
      obtain ⟨hS, hfc, kC, hkC, hkind⟩ := hX.1.1 c _ hcl
      obtain ⟨cf, kf, fi, f, hi, hsl⟩ := hS k hkN
      dsimp only at hS hfc hi hsl q4
      have hlay := hts _ (hin _ (u_in_lay hkN))
      have hst := (u_facts hfc hkC (u_lays hts hin hkN) hi).1
      have hlink : (Cond.fieldLink mi.1.cls idx ref (T k).2.1 (T k).2.2.1).before args s = true := by rw [hT]; exact hts _ hw
      have hpd : parseFieldDescriptor (T k).2.2.1 = some ty := by rw [hT]; exact hty
      have hsame : s.fieldFound? ref (T k).2.1 (T k).2.2.1 = some (cf, kf, fi, f) := by
        have := hi
        rw [hT] at this ⊢
        exact this
      have fin' : ∀ (H' : Heap) (locs1 : List Loc), H'[G.ad a]? = some (cell.setSlot (G.D.2 c k) (mj_v G.ad v)) → H'.size = H.size → (∀ q, q ≠ G.ad a → H'[q]? = H[q]?) → (∀ q ∈ locs1, q.base = G.ad a) → W p G.l e R s m args below meth cd H' (locs ++ locs1) cells slots Q (F0 m (pc + 3) ls (st.map (mj_v G.ad))) := by
        intro H' locs1 e1 e2 e3 e4
        refine K H' _ ?_
        rw [hh1]
        refine hR.put hX h3 hlt ?_ e2 e3 e4
        refine ⟨_, hcl, t_OB.to (V := updV (vp_V (fs.map (mj_v G.ad))) k (mj_v G.ad v)) ⟨_, e1, q2, q3, t_set q4 hap hkN (mj_v G.ad v)⟩ (fun j _ => ?_)⟩
        rw [vp_updV_set (by simpa using hkl)]
        show vp_V _ j = vp_V ((fs.set k v).map (mj_v G.ad)) j
        rw [List.map_set]
      unfold u_lay at hlay
      by_cases hfn : (T k).2.2.2 = true
      · rw [if_pos hfn] at hlay
        have hfn' : fin = true := by rw [hT] at hfn; exact hfn
        obtain ⟨hin2, href⟩ := hfin hfn'
        have hcf : m.cls = cf := by
          obtain ⟨_, _, c', _, _, _, -, -, hf', -, -, -, hown2, -⟩ := Cond.laysFinal_spec hlay
          have e1 : c' = cf := by have := hi.symm.trans hf'; simp at this; exact this.1.symm
          dsimp only at hown2
          rw [hT] at hown2
          dsimp only at hown2
          rw [href] at hown2
          rw [← e1]; exact Option.some.inj (hown.symm.trans hown2)
        have h6 := u_fits hfc hkC hkind (Or.inr hlay) hi hpd (hn G.ad) (hf G.ad)
        refine W.putFinK hF.1 hF.2.1 hown hlink hsame hst hcf (hF.2.2.2.2.2.1.trans hin2) (by rw [q2]; exact h6) q1 q3 (by rw [hsl]; exact k2_hasslot (q4 k hkN)) rfl rfl hd fun H' e1 e2 e3 => ?_
        rw [hsl] at e1
        exact fin' H' _ e1 e2 e3 (fun q hq => by rw [List.mem_singleton.mp hq])
      · rw [if_neg hfn] at hlay
        have h6 := u_store hfc hkC hkind hlay hi hpd (hn G.ad) (hf G.ad)
        refine W.putK hF.1 hF.2.1 (f := f) ⟨hown, hlink, ⟨_, _, _, hsame⟩, hst⟩ (by rw [q2]; exact h6) q1 q3 (by rw [hsl]; exact k2_hasslot (q4 k hkN)) rfl rfl hd fun H' e1 e2 e3 => ?_
        rw [hsl] at e1
        exact fin' H' _ e1 e2 e3 (fun q hq => by rw [List.mem_singleton.mp hq])
  · rw [if_neg hcc] at hk; cases hk
theorem go_pfi {idx : Nat} {o : Option Nat} {cs : List Nat} {k : Nat} {x : Int32} {ref nm : String} {fin : Bool} (hd : decode mi.2.1 pc = .ok (.putfield idx, 3)) (hcs : ∀ c ∈ cs, mj_fd c k = some (ref, nm, "I", fin)) (hw : Cond.fieldLink mi.1.cls idx ref nm "I" ∈ mj_tbl) (hfin : fin = true → mi.1.name = "<init>" ∧ ref = mi.1.cls) (hg : pfv h o cs k (.int x) = some h1) (B : Go mi d h0 (pc + 3) lv st h1 pc2 lv2 st2 h2) : Go mi d h0 pc lv (.int x :: va_rf o :: st) h pc2 lv2 st2 h2 :=
  go_put (ty := .int) hd hcs hw hfin (by decide +kernel) (fun _ => rfl) (fun _ => rfl) hg B
theorem go_pfz {idx : Nat} {o : Option Nat} {cs : List Nat} {k : Nat} {x : Int32} {ref nm : String} {fin : Bool} (hd : decode mi.2.1 pc = .ok (.putfield idx, 3)) (hcs : ∀ c ∈ cs, mj_fd c k = some (ref, nm, "Z", fin)) (hw : Cond.fieldLink mi.1.cls idx ref nm "Z" ∈ mj_tbl) (hfin : fin = true → mi.1.name = "<init>" ∧ ref = mi.1.cls) (hx : x = 0 ∨ x = 1) (hg : pfv h o cs k (.int x) = some h1) (B : Go mi d h0 (pc + 3) lv st h1 pc2 lv2 st2 h2) : Go mi d h0 pc lv (.int x :: va_rf o :: st) h pc2 lv2 st2 h2 :=
  go_put (ty := .boolean) hd hcs hw hfin (by decide +kernel) (fun _ => by rcases hx with rfl | rfl <;> rfl) (fun _ => by rcases hx with rfl | rfl <;> rfl) hg B
theorem go_pfr {idx : Nat} {o r : Option Nat} {cs : List Nat} {k : Nat} {ref nm desc : String} {fin : Bool} {ty : FieldType} (hd : decode mi.2.1 pc = .ok (.putfield idx, 3)) (hcs : ∀ c ∈ cs, mj_fd c k = some (ref, nm, desc, fin)) (hw : Cond.fieldLink mi.1.cls idx ref nm desc ∈ mj_tbl) (hfin : fin = true → mi.1.name = "<init>" ∧ ref = mi.1.cls) (hty : parseFieldDescriptor desc = some ty) (hr : ty.isReference = true) (hg : pfv h o cs k (va_rf r) = some h1) (B : Go mi d h0 (pc + 3) lv st h1 pc2 lv2 st2 h2) : Go mi d h0 pc lv (va_rf r :: va_rf o :: st) h pc2 lv2 st2 h2 :=
  go_put (ty := ty) hd hcs hw hfin hty (fun _ => by cases ty <;> first | (cases hr; done) | (cases r <;> rfl)) (fun _ => by cases ty <;> first | (cases hr; done) | (cases r <;> rfl)) hg B
end GO2
