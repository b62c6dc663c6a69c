/-! THE CLAIM OUT OF ONE WALK OF THE LAW'S BODY. Your part is whole_start (and what it stands on); all else here is the same for every law, but numbers. -/
def R_law : String := "WideTurnLaw"
def lw_P (b : Addr) (xs : List Int32) (args : Array Value) (s : State) : Prop := args = #[.ref b] ∧ s.IntsAt b xs ∧ xs.length ≤ 3072 ∧ (Jvm.Cond.and given_1 narrow_1).before args s = true
def lw_Q (_ : Array Value) (s : State) (o : Outcome) (t : State) : Prop := o = .returned (some (.int 1)) ∧ Framed s o t [] 600000 7302250
def lw_Z (below : List Frame) (a : Array Value) (s : State) : State → Prop := fun t => ∃ o, t.status = .running ∧ Ended t below o ∧ lw_Q a s o t
/-- the law's own end, with 1 on the stack, nothing written that was there before, its room as the claim has it -/
theorem lw_ret {p : Program} {l : Launch} {e : Env} {s : State} {m : MethodId} {below : List Frame} {meth : Method} {c : Code} {b : Nat} (hx : p.tables.exec = Jvm.exec) (hb : c.code = code) (hr : meth.sig.returnType = ret) (hlocks : meth.locks = false) {pc : Nat} {H : Heap} {ls : Array Slot} (hdg : decode code pc = .ok (.ireturn, 1)) : W p l e room_1 s m #[Value.ref b] below meth c H [] 600000 7302250 (lw_Z below #[Value.ref b] s) (F0 m pc ls [.int 1]) := by
  intro T hT X
  obtain ⟨fs, hret, hrun, hended, hW, hframe⟩ := X.leave (v := some (.int 1)) (hlocks := hlocks) (fun h => by rw [hr] at h; cases h)
  have hmeth' : T.vm.method? m = some meth := X.method'
  refine ⟨T.setFrames fs, ?_, .returned (some (.int 1)), hrun, hended, rfl, ⟨_, rfl⟩, hW, hframe⟩
  jvm_step X.here [X.here.top, hx, hb, hdg, hmeth', hr, ret, narrow_b1]
  (try refine ⟨rfl, ?_⟩); (try refine ⟨rfl, ?_⟩)
  first | (intro acts; rw [hret _ acts rfl rfl rfl]) | rw [hret _ _ rfl rfl rfl]
  exact Steps.refl _
/-- what holds at the law's entry: the machine, the code, the tables' words (any of lw_tbl by 'hts w (by decide +kernel)'), the script of L ints xs at the cell b, what the Statement gives of the start (any of its parts by flat_of_before) -/
def lw_At (p : Program) (s : State) (m : MethodId) (meth : Method) (c : Code) (b L : Nat) (xs : Nat → Int32) : Prop :=
  p.tables.exec = Jvm.exec ∧ c.code = code ∧ meth.sig.returnType = ret ∧ c.maxLocals = 4 ∧ s.vm.findClass R_law = some m.cls ∧ (∀ w ∈ lw_tbl, w.before #[Value.ref b] s = true) ∧ va_X b L xs s s.heap ∧ b < s.heap.size ∧ meth.locks = false ∧ (Jvm.Cond.and given_1 narrow_1).before #[Value.ref b] s = true
-- ===== the law's start (begun as SKELETON.whole) =====
def mj_east : Nat → Int32 := fun j => match j with
  | 0 => 1
  | 1 => 1
  | 2 => 0
  | 3 => -1
  | 4 => -1
  | 5 => -1
  | 6 => 0
  | _ => 1
def mj_south : Nat → Int32 := fun j => match j with
  | 0 => 0
  | 1 => -1
  | 2 => -1
  | 3 => -1
  | 4 => 0
  | 5 => 1
  | 6 => 1
  | _ => 1
/-- the picture at the law's start: EAST, SOUTH, the script -/
def mj_init (L : Nat) (xs : Nat → Int32) : MH := (fun i => match i with
  | 0 => .inl (0, 8, mj_east)
  | 1 => .inl (0, 8, mj_south)
  | 2 => .inl (0, L, xs)
  | _ => mj_nil, 3, 0)
theorem mj_inst : ∀ q ∈ mj_cl, Cond.instantiable q.1 q.2.2 ∈ lw_tbl := by decide +kernel
theorem mj_ncIn : ∀ q ∈ mj_nc, Cond.not (.castable q.1 q.2) ∈ flatC (Jvm.Cond.and given_1 narrow_1) := by decide +kernel
theorem mj_wa (k : Nat) {w : Cond} (h : lw_tbl[k]? = some w) : w ∈ lw_tbl := List.mem_of_getElem? h
theorem mj_all8 {P : Nat → Prop} (h0 : P 0) (h1 : P 1) (h2 : P 2) (h3 : P 3) (h4 : P 4) (h5 : P 5) (h6 : P 6) (h7 : P 7) : ∀ j, j < 8 → P j := by
  intro j hj
  rcases (show j = 0 ∨ j = 1 ∨ j = 2 ∨ j = 3 ∨ j = 4 ∨ j = 5 ∨ j = 6 ∨ j = 7 by omega) with rfl | rfl | rfl | rfl | rfl | rfl | rfl | rfl <;> assumption
theorem mj_nw {s : State} {A : Array Value} {w : Cond} (hk : mj_kind w = true) (h : w.before A s = true) : va_Nw w s := by
  unfold mj_kind at hk
  split at hk
  · exact va_Nw.of rfl h
  · exact va_Nw.of rfl h
  · exact va_Nw.of rfl h
  · exact h
  · cases hk
set_option maxHeartbeats 4000000 in
set_option maxRecDepth 100000 in
theorem mj_whole {p : Program} {e : Env} {s : State} {m : MethodId} {below : List Frame} {meth : Method} {c : Code} (l : Launch) {b L : Nat} {xs : Nat → Int32} (hL : L ≤ 3072) (C0 : lw_At p s m meth c b L xs) (hname : meth.name = "law")
    (hc : ∃ (F : Nat) (r : Int32 × MH), f_L_law F (some 2) (mj_init L xs) = some r ∧ r.1 = 1 ∧ r.2.2.1 ≤ 600003 ∧ r.2.2.2 ≤ 7302250) : W p l e room_1 s m #[Value.ref b] below meth c s.heap [] 0 0 (lw_Z below #[Value.ref b] s) (entryFrame m ([Value.ref b] : List Value).toArray 4) := by
  obtain ⟨hx, hb, hr, hml, hown, hts, hX, hbl, hlocks, hgv⟩ := id C0
  obtain ⟨F, r, hlaw, hr1, hr2, hr3⟩ := hc
  have hg := flat_of_before _ hgv
  have hA : ∀ a : Nat, a < s.heap.size → ¬ (fun q : Nat => s.heap.size ≤ q) a := fun a ha => Nat.not_le.mpr ha
  -- the two static arrays
  have le : (Term.length (Term.static "WideTurn" "EAST" "[I")).eval #[Value.ref b] s none [] s = some (.int (Int32.ofNat 8)) := va_eqt (hg _ (by decide +kernel))
  have ls_ : (Term.length (Term.static "WideTurn" "SOUTH" "[I")).eval #[Value.ref b] s none [] s = some (.int (Int32.ofNat 8)) := va_eqt (hg _ (by decide +kernel))
  have ee : ∀ j : Nat, j < 8 → (Term.elem (Term.static "WideTurn" "EAST" "[I") (.int (Int32.ofNat j))).eval #[Value.ref b] s none [] s = some (.int (mj_east j)) := mj_all8 (va_eqt (hg _ (by decide +kernel))) (va_eqt (hg _ (by decide +kernel))) (va_eqt (hg _ (by decide +kernel))) (va_eqt (hg _ (by decide +kernel))) (va_eqt (hg _ (by decide +kernel))) (va_eqt (hg _ (by decide +kernel))) (va_eqt (hg _ (by decide +kernel))) (va_eqt (hg _ (by decide +kernel)))
  have es : ∀ j : Nat, j < 8 → (Term.elem (Term.static "WideTurn" "SOUTH" "[I") (.int (Int32.ofNat j))).eval #[Value.ref b] s none [] s = some (.int (mj_south j)) := mj_all8 (va_eqt (hg _ (by decide +kernel))) (va_eqt (hg _ (by decide +kernel))) (va_eqt (hg _ (by decide +kernel))) (va_eqt (hg _ (by decide +kernel))) (va_eqt (hg _ (by decide +kernel))) (va_eqt (hg _ (by decide +kernel))) (va_eqt (hg _ (by decide +kernel))) (va_eqt (hg _ (by decide +kernel)))
  obtain ⟨t0, ht0, c0, a1, a2, a3, a4, a5, a6, -⟩ := va_Tof (tm := Term.static "WideTurn" "EAST" "[I") (ty := .int) (N := 8) (f := fun j => .int (mj_east j)) (A := fun q => s.heap.size ≤ q) (by decide) (hg _ (by decide +kernel)) le ee hA
  obtain ⟨t1, ht1, c1, b1, b2, b3, b4, b5, b6, -⟩ := va_Tof (tm := Term.static "WideTurn" "SOUTH" "[I") (ty := .int) (N := 8) (f := fun j => .int (mj_south j)) (A := fun q => s.heap.size ≤ q) (by decide) (hg _ (by decide +kernel)) ls_ es hA
  have z0 := va_Zof (C := "WideTurn") (n := "EAST") (d := "[I") (A := fun q => s.heap.size ≤ q) (hts _ (mj_wa 615 (by decide +kernel))) (hts _ (mj_wa 53 (by decide +kernel))) ht0 hA
  have z1 := va_Zof (C := "WideTurn") (n := "SOUTH") (d := "[I") (A := fun q => s.heap.size ≤ q) (hts _ (mj_wa 617 (by decide +kernel))) (hts _ (mj_wa 53 (by decide +kernel))) ht1 hA
  have hl0 : t0 < s.heap.size := (Array.getElem?_eq_some_iff.mp a1).1
  have hl1 : t1 < s.heap.size := (Array.getElem?_eq_some_iff.mp b1).1
  -- the classes
  have hk : ∀ k : Nat, ∃ (cC : ClassId) (iS : Nat → Nat), ∀ q : vw_C, mj_cl[k]? = some q → u_Kn s q.1 q.2.1 q.2.2 cC iS := by
    intro k
    cases hq : mj_cl[k]? with
    | none => exact ⟨0, fun _ => 0, fun q h => by cases h⟩
    | some q =>
      obtain ⟨cC, iS, h⟩ := u_known (C := q.1) (T := q.2.1) (N := q.2.2) (n := q.2.2) hts (mj_oks q (List.mem_of_getElem? hq)).1 (hts _ (mj_inst q (List.mem_of_getElem? hq)))
      exact ⟨cC, iS, fun q' h' => by cases h'; exact h⟩
  -- the array classes
  obtain ⟨cI, kI, pI, f1, f2, f3⟩ := Cond.arrayClass_spec (hts (.arrayClass .int) (mj_wa 97 (by decide +kernel)))
  obtain ⟨cZ, kZ, pZ, f4, f5, f6⟩ := Cond.arrayClass_spec (hts (.arrayClass .boolean) (mj_wa 1065 (by decide +kernel)))
  obtain ⟨mH, cH, kH, g1, -, g2, g3, g4⟩ := Cond.arrayOver_spec (hts (.arrayOver (.object "WideTurn$Hand")) (mj_wa 212 (by decide +kernel)))
  obtain ⟨mB, cB, kB, g5, -, g6, g7, g8⟩ := Cond.arrayOver_spec (hts (.arrayOver (.object "WideTurn$Basin")) (mj_wa 274 (by decide +kernel)))
  obtain ⟨G, hG⟩ : ∃ G : CX, G = (l, (fun k => Classical.choose (hk k), fun k => Classical.choose (Classical.choose_spec (hk k))), (fun k => match k with | 0 => cI | 1 => cZ | 2 => cH | _ => cB), (fun i => match i with | 0 => t0 | 1 => t1 | 2 => b | i => s.heap.size + (i - 3)), s.heap.size) := ⟨_, rfl⟩
  have hGl : G.l = l := by rw [hG]
  have hGb : G.base = s.heap.size := by rw [hG]
  have ad0 : G.ad 0 = t0 := by rw [hG]; rfl
  have ad1 : G.ad 1 = t1 := by rw [hG]; rfl
  have ad2 : G.ad 2 = b := by rw [hG]; rfl
  have ad3 : ∀ i, 3 ≤ i → G.ad i = G.base + (i - 3) := by
    intro i hi
    rw [hG]
    match i, hi with
    | i + 3, _ => rfl
  have hFx : mj_Fx G s := by
    refine ⟨⟨fun k q hq => ?_, fun k q hq => ?_⟩, ad3, fun i hi => ?_, fun w hw => mj_nw (List.mem_filter.mp hw).2 (hts _ (List.mem_filter.mp hw).1), fun q hq => va_Nc.of (hg _ (mj_ncIn q hq))⟩
    · rw [hG]
      exact Classical.choose_spec (Classical.choose_spec (hk k)) q hq
    · have hk4 : k < 4 := (List.getElem?_eq_some_iff.mp hq).1
      rw [mj_tys_at G hk4] at hq
      cases hq
      rw [hG]
      rcases (show k = 0 ∨ k = 1 ∨ k = 2 ∨ k = 3 by omega) with rfl | rfl | rfl | rfl
      · exact ⟨fun n z => ⟨fun _ h => (by cases h), kI, f2, pI, f3⟩, f1⟩
      · exact ⟨fun n z => ⟨fun _ h => (by cases h), kZ, f5, pZ, f6⟩, f4⟩
      · exact ⟨fun n z => ⟨fun _ h => (by cases h), kH, g2, mH, g3⟩, kH, mH, g2, g3, g1, g4⟩
      · exact ⟨fun n z => ⟨fun _ h => (by cases h), kB, g6, mB, g7⟩, kB, mB, g6, g7, g5, g8⟩
    · rcases (show i = 0 ∨ i = 1 ∨ i = 2 by omega) with rfl | rfl | rfl
      · rw [ad0, hGb]; exact hl0
      · rw [ad1, hGb]; exact hl1
      · rw [ad2, hGb]; exact hbl
  obtain ⟨scr, x1, x2, x3, x4, x5⟩ := hX
  have hR : mj_Rep G s (mj_init L xs) s.heap [] := by
    refine ⟨by rw [hGb]; rfl, Nat.le_refl _, fun i h1 h2 => ?_, fun i hi => ?_, fun i hi => ?_, fun i hi => ?_, fun q _ => rfl, by rw [hGb]; exact Nat.le_refl _, fun q h => by cases h⟩
    · have h2 : i < 3 := h2
      omega
    · have hi : 3 ≤ i := hi
      match i, hi with
      | i + 3, _ => rfl
    · rcases (show i = 0 ∨ i = 1 ∨ i = 2 by omega) with rfl | rfl | rfl
      · exact ⟨8, mj_east, rfl, by rw [ad0]; exact ⟨c0, a1, a2, a3, a4, a5, a6⟩⟩
      · exact ⟨8, mj_south, rfl, by rw [ad1]; exact ⟨c1, b1, b2, b3, b4, b5, b6⟩⟩
      · exact ⟨L, xs, rfl, by rw [ad2]; exact ⟨scr, x1, x2, x3, Nat.le_of_eq x4.symm, by rw [x4] <;> rfl, x5⟩⟩
    · rcases (show i = 0 ∨ i = 1 by omega) with rfl | rfl
      · rw [ad0, hGb]; exact z0
      · rw [ad1, hGb]; exact z1
  have hF : mj_Fr mi_L_law p s m #[Value.ref b] meth c := ⟨hx, hb, hml, hown, fun w hw => hts w (List.mem_filter.mp hw).1, hname, hr, hlocks⟩
  obtain ⟨pc1, lv1, hd, -, q1, q2, hgo⟩ := t_L_law F (some 2) (mj_init L xs) r hlaw
  have hl := lv_entry ([.ref b]) (n := 4) (Nat.le_of_ble_eq_true rfl)
  rw [lg_entry_eq]
  generalize (lg_sl ([.ref b]) ++ List.replicate (4 - (lg_sl ([.ref b])).length) Slot.unset).toArray = ls at hl ⊢
  have hl : lv_has ls 4 (mj_l G.ad [(0, va_rf (some 2))]) := by
    have e1 : mj_l G.ad [(0, va_rf (some 2))] = [(0, .ref b)] := by
      show [(0, Value.ref (G.ad 2))] = _
      rw [ad2]
    rw [e1]
    exact hl
  have K := hgo G p e room_1 s m #[Value.ref b] below meth c (lw_Z below #[Value.ref b] s) hF hFx (Nat.le_refl _) (Nat.le_refl _) (Nat.le_of_ble_eq_true rfl) (Nat.le_of_ble_eq_true rfl) (by show r.2.2.1 - 3 ≤ 600000; omega) (by show r.2.2.2 - 0 ≤ 7302250; omega)
    (fun H locs ls hR1 _ => by
      refine va_forget (fun q hq => ?_) ?_
      · rw [← hGb]; exact hR1.2.2.2.2.2.2.2.2 q hq
      · refine W.widen (k := 600000) (n := 7302250) (by show r.2.2.1 - 3 ≤ 600000; omega) (by show r.2.2.2 - 0 ≤ 7302250; omega) ?_
        have e1 : (some (Value.int r.1)).toList.map (mj_v G.ad) = [.int 1] := by rw [hr1]; rfl
        rw [e1, hGl]
        exact lw_ret hx hb hr hlocks hd)
    s.heap [] ls hR hl
  rw [Nat.sub_self, Nat.sub_self, hGl] at K
  exact K
