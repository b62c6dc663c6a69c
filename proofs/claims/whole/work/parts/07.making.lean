/-! ===== rules of making; the two static arrays; instanceof; arraycopy ===== -/
section GO4
variable {mi : MI} {d : Nat} {h0 : MH} {pc pc1 pc2 : Nat} {lv lv2 : List (Nat × Value)} {st st1 st2 : List Value} {h h1 h2 : MH}
theorem go_new {idx ci : Nat} {q : vw_C} {fs : List Value} (hd : decode mi.2.1 pc = .ok (.new idx, 3)) (hcl : mj_cl[ci]? = some q) (hfs : (List.range q.2.2).map (fun j => (parseFieldDescriptor (q.2.1 j).2.2.1).map defaultValue) = fs.map some) (htv : ∀ ad, fs.map (mj_v ad) = fs) (hw1 : Cond.classLink mi.1.cls idx q.1 ∈ mj_tbl) (hw2 : Cond.instantiable q.1 q.2.2 ∈ mj_tbl) (hw3 : Cond.initialized q.1 ∈ mj_tbl) (B : Go mi d h0 (pc + 3) lv (va_rf (some h.2.1) :: st) (newo h ci fs) pc2 lv2 st2 h2) : Go mi d h0 pc lv st h pc2 lv2 st2 h2 := by
  obtain ⟨-, ⟨ty, hty⟩, -⟩ := mj_oks q (List.mem_of_getElem? hcl)
  have hlen : fs.length = q.2.2 := by
    have := congrArg List.length hfs
    simpa using this.symm
  refine Go.al (h1 := newo h ci fs) (n := fs.length) rfl rfl (fun G p e R s m args below meth c Q cells slots H locs ls hF hX g5 g6 hR hl K => ?_) B
  have hts := hF.2.2.2.2.1
  have hKn := hX.1.1 ci _ hcl
  rw [hlen] at g6 K
  refine W.newcK hF.1 hF.2.1 hF.2.2.2.1 (hts _ hw1) (hts _ hw2) (hts _ hw3) rfl hd g5 g6 hKn.2.1 rfl fun H1 kC hkC e1 z1 o1 => ?_
  have hat : va_at G.D mj_cl (H.size, mj_e G (.inr (.inr (ci, fs)))) H1 := by
    refine ⟨q, hcl, (u_born ty hts (mj_cl_in hcl) hKn hkC e1 hty).to (fun j hj => ?_)⟩
    show defaultValue (ty j) = vp_V (fs.map (mj_v G.ad)) j
    rw [htv]
    have e2 : (fs.map some)[j]? = some (some (defaultValue (ty j))) := by
      rw [← hfs, List.getElem?_map, List.getElem?_range hj]
      simp [hty j hj]
    rw [List.getElem?_map] at e2
    unfold vp_V
    rw [List.getD_eq_getElem?_getD]
    cases hv : fs[j]? with
    | none => rw [hv] at e2; cases e2
    | some v => rw [hv] at e2; exact (Option.some.inj (Option.some.inj e2)).symm
  obtain ⟨hR1, had⟩ := hR.push hX hat z1 o1 (n := fs.length)
  have := K H1 hR1
  rw [List.map_cons, mj_vrf] at this
  dsimp only [Option.map_some] at this
  rw [had] at this
  exact this
theorem go_newa {atype : ArrayType} {t N : Nat} {n : Int32} (ht : t < 2) (hty : newarray.typeOf atype = mj_aty t) (hd : decode mi.2.1 pc = .ok (.newarray atype, 2)) (hw : Cond.arrayClass (mj_aty t) ∈ mj_tbl) (hn : ¬ n < 0) (hN : n.toNatClampNeg = N) (hb : N ≤ 100000) (B : Go mi d h0 (pc + 2) lv (va_rf (some h.2.1) :: st) (newa h t N) pc2 lv2 st2 h2) : Go mi d h0 pc lv (.int n :: st) h pc2 lv2 st2 h2 := by
  refine Go.al (h1 := newa h t N) (n := N) rfl rfl (fun G p e R s m args below meth c Q cells slots H locs ls hF hX g5 g6 hR hl K => ?_) B
  have hts := hF.2.2.2.2.1
  have hbytes : N * componentBytes (newarray.typeOf atype) ≤ 536870912 := by
    rw [hty]
    rcases (show t = 0 ∨ t = 1 by omega) with rfl | rfl
    · show N * 4 ≤ _; omega
    · show N * 1 ≤ _; omega
  refine va_newaK hF.1 hF.2.1 (by rw [hty]; exact hts _ hw) rfl hd rfl hn hN hbytes g5 g6 rfl fun H1 cA e1 z1 o1 hAr hNm => ?_
  have hcA : cA = G.cA t := by
    have h5 := (hX.1.2 t _ (mj_tys_at G (by omega))).2
    rw [hty] at hNm
    rcases (show t = 0 ∨ t = 1 by omega) with rfl | rfl
    · exact Option.some.inj (hNm.symm.trans h5)
    · exact Option.some.inj (hNm.symm.trans h5)
  have hat : va_at G.D mj_cl (H.size, mj_e G (.inl (t, N, fun _ => 0))) H1 := by
    show H1[H.size]? = some (vp_cell (G.cA t) (N, .inl fun _ => 0))
    rw [e1, hcA, vp_cell_i, hty]
    rcases (show t = 0 ∨ t = 1 by omega) with rfl | rfl <;> rfl
  obtain ⟨hR1, had⟩ := hR.push hX hat z1 o1 (n := N)
  have := K H1 hR1
  rw [List.map_cons, mj_vrf] at this
  dsimp only [Option.map_some] at this
  rw [had] at this
  exact this
theorem go_newq {idx t N : Nat} {C : String} {n : Int32} (ht : t = 2 ∨ t = 3) (hty : mj_aty t = .object C) (hd : decode mi.2.1 pc = .ok (.anewarray idx, 3)) (hw : Cond.classLink mi.1.cls idx C ∈ mj_tbl) (hw2 : Cond.arrayOver (.object C) ∈ mj_bad) (hn : ¬ n < 0) (hN : n.toNatClampNeg = N) (hb : N ≤ 100000) (B : Go mi d h0 (pc + 3) lv (va_rf (some h.2.1) :: st) (newq h t N) pc2 lv2 st2 h2) : Go mi d h0 pc lv (.int n :: st) h pc2 lv2 st2 h2 := by
  refine Go.al (h1 := newq h t N) (n := N) rfl rfl (fun G p e R s m args below meth c Q cells slots H locs ls hF hX g5 g6 hR hl K => ?_) B
  have hts := hF.2.2.2.2.1
  subst hN
  refine W.anew hF.1 hF.2.1 hF.2.2.2.1 (hts _ hw) (va_AO.use (va_AO.of (A := #[]) (hX.2.2.2.1 _ hw2))) rfl hd rfl hn (by omega) g5 g6 fun cA kA comp f1 f2 f3 f4 => ?_
  have hcA : cA = G.cA t := by
    have h5 := (hX.1.2 t _ (mj_tys_at G (by omega))).2
    dsimp only at h5
    rw [hty] at h5
    obtain ⟨kA', comp', -, -, -, h6⟩ := h5
    exact Option.some.inj (f1.symm.trans h6)
  generalize hH1 : H.push ({ cls := cA, slots := Array.replicate n.toNatClampNeg .null, vm := .none } : Cell) = H1
  have z1 : H1.size = H.size + 1 := by rw [← hH1, Array.size_push]
  have e1 : H1[H.size]? = some (arrV cA n.toNatClampNeg (fun _ => .null)) := by rw [← hH1, Array.getElem?_push_size, ← arrV_new]
  have o1 : ∀ q, q < H.size → H1[q]? = H[q]? := fun q hq => by rw [← hH1, Array.getElem?_push, if_neg (Nat.ne_of_lt hq)]
  have hat : va_at G.D mj_cl (H.size, mj_e G (.inr (.inl (t, n.toNatClampNeg, fun _ => none)))) H1 := by
    show H1[H.size]? = some (vp_cell (G.cA t) _)
    rw [e1, hcA, vp_cell_q]
    rfl
  obtain ⟨hR1, had⟩ := hR.push hX hat z1 o1 (n := n.toNatClampNeg)
  have := K H1 hR1
  rw [List.map_cons, mj_vrf] at this
  dsimp only [Option.map_some] at this
  rw [had] at this
  exact this
theorem go_gets {idx i : Nat} {nm : String} (hi : i < 2) (hnm : (if i = 0 then "EAST" else "SOUTH") = nm) (hd : decode mi.2.1 pc = .ok (.getstatic idx, 3)) (hw : Cond.fieldLink mi.1.cls idx "WideTurn" nm "[I" ∈ mj_tbl) (B : Go mi d h0 (pc + 3) lv (va_rf (some i) :: st) h pc2 lv2 st2 h2) : Go mi d h0 pc lv st h pc2 lv2 st2 h2 := by
  refine Go.one (fun G p e R s m args below meth c Q cells slots H locs ls hF hX g3 g4 hR hl K => ?_) B
  have hts := hF.2.2.2.2.1
  obtain ⟨cf, kf, fi, f, a, cell, w1, w2, w3, w4, w5, w6, w7, w8⟩ := hR.2.2.2.2.2.1 i hi
  rw [hnm] at w1
  have K' := K ls hl
  rw [List.map_cons, mj_vrf] at K'
  exact W.gets hF.1 hF.2.1 hF.2.2.2.1 (hts _ hw) w1 w2 w3 w4 w5 (fun e => by rw [e] at w6; cases w6) w7 rfl hd K'
/-- whether an object of class c is one of class C: 1, 0 -/
def mj_is (c : Nat) (C : String) : Option Bool := match mj_cl[c]? with
  | some q => if q.1 = C ∨ Cond.castable q.1 C ∈ mj_bad then some true else if (q.1, C) ∈ mj_nc then some false else none
  | none => none
theorem go_inst {idx : Nat} {o : Option Nat} {C : String} {c : Nat} {fs : List Value} {b : Bool} (hd : decode mi.2.1 pc = .ok (.instanceof idx, 3)) (hw : Cond.classLink mi.1.cls idx C ∈ mj_tbl) (hg : mj_obj h o = some (c, fs)) (hne : fs ≠ []) (hb : mj_is c C = some b) (B : Go mi d h0 (pc + 3) lv (.int (if b then 1 else 0) :: st) h pc2 lv2 st2 h2) : Go mi d h0 pc lv (va_rf o :: st) h pc2 lv2 st2 h2 := by
  cases o with
  | none => simp [mj_obj] at hg
  | some a =>
    have ha : h.1 a = .inr (.inr (c, fs)) := by
      simp only [mj_obj] at hg
      split at hg
      · next q e => cases hg; exact e
      · cases hg
    refine Go.one (fun G p e R s m args below meth cd Q cells slots H locs ls hF hX g3 g4 hR hl K => ?_) B
    have hts := hF.2.2.2.2.1
    obtain ⟨h3, hlt, hat⟩ := mj_obj_at hR ha hne
    unfold mj_is at hb
    cases hcq : mj_cl[c]? with
    | none => rw [hcq] at hb; cases hb
    | some r =>
      rw [hcq] at hb
      dsimp only at hb
      have hrec := va_recv hX.1 (mj_P1 hat) (q0 := 0) hcq rfl
      by_cases h1 : r.1 = C ∨ Cond.castable r.1 C ∈ mj_bad
      · rw [if_pos h1] at hb
        have hb' : b = true := (Option.some.inj hb).symm
        subst hb'
        rcases h1 with h1 | h1
        · refine va_instS hF.1 hF.2.1 hF.2.2.2.1 (hts _ hw) (cC := G.D.1 c) ?_ (by rw [← h1]; exact hrec) hd (K ls hl)
          rw [← h1]
          exact (hX.1.1 c _ hcq).2
        · exact va_instY hF.1 hF.2.1 hF.2.2.2.1 (hts _ hw) (hX.2.2.2.1 _ h1) hrec hd (K ls hl)
      · rw [if_neg h1] at hb
        by_cases h4 : (r.1, C) ∈ mj_nc
        · rw [if_pos h4] at hb
          have hb' : b = false := (Option.some.inj hb).symm
          subst hb'
          exact va_instNo hF.1 hF.2.1 hF.2.2.2.1 (hts _ hw) (hX.2.2.2.2 _ h4) hrec hd (K ls hl)
        · rw [if_neg h4] at hb; cases hb
theorem go_cpy {idx : Nat} {o : Option Nat} {sp dp n : Int32} (hd1 : 1 ≤ d) (hst : (st.map fun v => v.category).sum ≤ 8) (hd : decode mi.2.1 pc = .ok (.invokestatic idx, 3)) (hw1 : Cond.methodLink mi.1.cls idx arraycopyName ∈ mj_tbl) (hw2 : Cond.native arraycopyName ∈ mj_tbl) (hw3 : Cond.static arraycopyName ∈ mj_tbl) (hw4 : Cond.initialized "java/lang/System" ∈ mj_tbl) (hg : cpy h o sp dp n = some h1) (B : Go mi d h0 (pc + 3) lv st h1 pc2 lv2 st2 h2) : Go mi d h0 pc lv (.int n :: .int dp :: va_rf o :: .int sp :: va_rf o :: st) h pc2 lv2 st2 h2 := by
  unfold cpy at hg
  obtain ⟨⟨t, N, f⟩, hq, hk⟩ := Option.bind_eq_some_iff.mp hg
  dsimp only at hk
  by_cases hc : t = 0 ∧ 3 ≤ o.getD 0 ∧ 0 ≤ sp ∧ 0 ≤ dp ∧ 0 ≤ n ∧ sp.toNatClampNeg + n.toNatClampNeg ≤ N ∧ dp.toNatClampNeg + n.toNatClampNeg ≤ N
  · rw [if_pos hc] at hk
    obtain ⟨rfl, h3, c1, c2, c3, c4, c5⟩ := hc
    obtain ⟨a, rfl, ha⟩ := mj_arr_spec hq
    have h3 : 3 ≤ a := h3
    have hh1 : h1 = mj_up h a (.inl (0, N, va_cpy f f sp.toNatClampNeg dp.toNatClampNeg n.toNatClampNeg)) := (Option.some.inj hk).symm
    refine Go.wr (by rw [hh1]; rfl) (fun G p e R s m args below meth cd Q cells slots H locs ls hF hX g3 g4 hR hl K => ?_) B
    have hts := hF.2.2.2.2.1
    have nn : ∀ z : Int32, 0 ≤ z → z.toInt = (z.toNatClampNeg : Int) := by
      intro z hz
      have hz0 : (0 : Int) ≤ z.toInt := by simpa using Int32.le_iff_toInt_le.mp hz
      show z.toInt = ((z.toInt.toNat : Nat) : Int)
      omega
    have hno : ∀ z : Int32, 0 ≤ z → ¬ z < 0 := fun z hz => Int32.not_lt.mpr hz
    obtain ⟨hlt, hcl⟩ := mj_arr_at hR ha h3
    obtain ⟨-, k0, hk0, cm0, hkk0⟩ := (hX.1.2 0 _ (mj_tys_at G (by decide))).1 N (fun j => .int (f j))
    intro T hT X
    obtain ⟨vm', X', step⟩ := X.arraycopy hF.1 hF.2.2.2.1 (hts _ hw1) (hts _ hw2) (hts _ hw3) (hts _ hw4) (src := G.ad a) (dst := G.ad a) (cs := vp_cell (G.cA 0) (N, .inl f)) (cd := vp_cell (G.cA 0) (N, .inl f)) (srcPos := sp) (destPos := dp) (n := n) (by rw [hT]; exact hcl) (by rw [hT]; exact hcl)
      (fun _ h => by cases h) (fun _ h => by cases h) (fun h => by cases h) (fun h => by cases h) hk0 hk0 hkk0 hkk0 (by simp [mj_aty, refKind]) (hno _ c1) (hno _ c2) (hno _ c3)
      (by rw [nn sp c1, nn n c3]; show ¬ _ > ((arrV (G.cA 0) N (fun j => .int (f j))).slots.size : Int); rw [arrV_size]; omega)
      (by rw [nn dp c2, nn n c3]; show ¬ _ > ((arrV (G.cA 0) N (fun j => .int (f j))).slots.size : Int); rw [arrV_size]; omega)
      (fun vm₁ _ i hi => by
        have e : (vp_cell (G.cA 0) (N, .inl f)).slots.getD (sp.toNatClampNeg + i) .null = .int (f (sp.toNatClampNeg + i)) := by
          show (arrV (G.cA 0) N (fun j => .int (f j))).slots.getD _ _ = _
          rw [Array.getD_eq_getD_getElem?, arrV_read _ _ (by omega)]
          rfl
        refine ⟨?_, ?_⟩
        · rw [e]
          rfl
        · rw [e]
          exact trivial)
      (g := F0 m pc ls (.int n :: .int dp :: .ref (G.ad a) :: .int sp :: .ref (G.ad a) :: st.map (mj_v G.ad))) rfl (by rw [hF.2.2.1]; exact hl.1) (rest := st.map (mj_v G.ad)) rfl (by rw [hF.2.1]; exact hd) (Nat.le_trans hd1 g4) (by
        have e5 : ((st.map (mj_v G.ad)).map fun v => v.category).sum = (st.map fun v => v.category).sum := by
          rw [List.map_map]
          congr 1
          exact List.map_congr_left fun v _ => mj_cat G.ad v
        show 2 * 0 + _ + _ ≤ _
        rw [e5]
        have e6 : nativeFrameWords "java/lang/System" "arraycopy" 5 + 11 ≤ 20 := by decide
        omega)
    have e1 : copied (vp_cell (G.cA 0) (N, .inl f)) (vp_cell (G.cA 0) (N, .inl f)) sp dp n = vp_cell (G.cA 0) (N, .inl (va_cpy f f sp.toNatClampNeg dp.toNatClampNeg n.toNatClampNeg)) := va_copied (fun z => .int z) (G.cA 0) (G.cA 0) f f c4
    rw [e1] at X' step
    have hsz : G.ad a < H.size := (Array.getElem?_eq_some_iff.mp hcl).1
    have hheap : ((T.setVm vm').setCell (G.ad a) (vp_cell (G.cA 0) (N, .inl (va_cpy f f sp.toNatClampNeg dp.toNatClampNeg n.toNatClampNeg)))).heap = H.setIfInBounds (G.ad a) (vp_cell (G.cA 0) (N, .inl (va_cpy f f sp.toNatClampNeg dp.toNatClampNeg n.toNatClampNeg))) := by rw [← hT]; rfl
    have oq : ∀ q : Nat, q ≠ G.ad a → (H.setIfInBounds (G.ad a) (vp_cell (G.cA 0) (N, .inl (va_cpy f f sp.toNatClampNeg dp.toNatClampNeg n.toNatClampNeg))))[q]? = H[q]? := fun q hq => by simp [Array.getElem?_setIfInBounds, Ne.symm hq]
    have hR1 := hR.put (c := .inl (0, N, va_cpy f f sp.toNatClampNeg dp.toNatClampNeg n.toNatClampNeg)) (locs1 := ((vp_cell (G.cA 0) (N, .inl f)).stretch sp.toNatClampNeg n.toNatClampNeg).zipIdx.map fun (q : Value × Nat) => (⟨G.ad a, dp.toNatClampNeg + q.2⟩ : Loc)) hX h3 hlt (show (H.setIfInBounds (G.ad a) _)[G.ad a]? = some _ by simp [Array.getElem?_setIfInBounds, hsz, mj_e]) (by simp) oq (fun q hq => by obtain ⟨z, -, rfl⟩ := List.mem_map.mp hq; rfl)
    rw [← hh1] at hR1
    obtain ⟨t, a1, b1⟩ := K _ _ hR1 _ hheap X'
    exact ⟨t, step t a1, b1⟩
  · rw [if_neg hc] at hk; cases hk
end GO4
