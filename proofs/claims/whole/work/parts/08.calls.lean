/-! ===== a method's contract, and how it is called ===== -/
theorem mj_Fx.move {G : CX} {s U : State} (hW : s.WarmedH U.vm) (h : mj_Fx G s) : mj_Fx G U :=
  ⟨va_K.moved hW.alike h.1, h.2.1, h.2.2.1, fun w hw => mj_keep hW (List.mem_filter.mp hw).2 (h.2.2.2.1 w hw), fun q hq => (h.2.2.2.2 q hq).moved hW.alike⟩
theorem mj_Rep.move {G : CX} {s U : State} {h : MH} {H : Heap} {locs locs1 : List Loc} (hA : s.vm.Alike U.vm) (hR : mj_Rep G s h H locs) (hq : ∀ q, q < G.base → H[q]? = U.heap[q]?) (hb : G.base ≤ U.heap.size) (hL : ∀ q ∈ locs1, G.base ≤ q.base) : mj_Rep G U h H locs1 := by
  obtain ⟨r1, r2, r3, r4, r5, r6, r7, r8, r9⟩ := hR
  refine ⟨r1, r2, r3, r4, fun i hi => ?_, fun i hi => (r6 i hi).moved hA, hq, hb, hL⟩
  obtain ⟨n, f, e1, e2⟩ := r5 i hi
  exact ⟨n, f, e1, e2.moved hA⟩
def mj_Pc (G : CX) (av : List Value) (h : MH) : Array Value → State → Prop := fun a U => a = (av.map (mj_v G.ad)).toArray ∧ mj_Fx G U ∧ mj_Rep G U h U.heap []
def mj_Qc (G : CX) (r : Option Value) (h1 : MH) : Array Value → State → Outcome → State → Prop := fun _ st o t => o = .returned (r.map (mj_v G.ad)) ∧ mj_Rep G t h1 t.heap [] ∧ ∀ q, q < G.base → t.heap[q]? = st.heap[q]?
def mj_ws (mi : MI) : List Cond := Cond.code mi.1 mi.2.1 mi.2.2.1 mi.2.2.2 :: mj_tbl
/-- method mi, called with av on the heap h, returns r, and the heap is h1 -/
def Mt (mi : MI) (d : Nat) (av : List Value) (h : MH) (r : Option Value) (h1 : MH) : Prop :=
  h.2.1 ≤ h1.2.1 ∧ h.2.2 ≤ h1.2.2 ∧ ∀ G : CX, Met G.l mi.1 (mj_ws mi) { frames := d, cells := h1.2.1 - h.2.1, slots := h1.2.2 - h.2.2, locals := 64 * d } (mj_Pc G av h) (mj_Qc G r h1) (h1.2.1 - h.2.1) (h1.2.2 - h.2.2) (fun q => G.base ≤ q)
theorem mj_rfc (o : Option Nat) : (va_rf o).category = 1 := by cases o <;> rfl
theorem mj_sl (ad : Nat → Nat) (av : List Value) : (lg_sl (av.map (mj_v ad))).length = (av.map Value.category).sum := by
  induction av with
  | nil => rfl
  | cons v vs ih =>
    have e : lg_sl ((v :: vs).map (mj_v ad)) = (if v.category = 2 then [.val (mj_v ad v), .second] else [.val (mj_v ad v)]) ++ lg_sl (vs.map (mj_v ad)) := by
      simp [lg_sl, mj_cat]
    rw [e, List.length_append, ih, List.map_cons, List.sum_cons]
    rcases lv_cat v with h | h <;> simp [h]
theorem mj_largs (ad : Nat → Nat) (av : List Value) : ∀ i, lv_args i (av.map (mj_v ad)) = mj_l ad (lv_args i av) := by
  induction av with
  | nil => intro i; rfl
  | cons v vs ih =>
    intro i
    show (i, mj_v ad v) :: lv_args (if (mj_v ad v).category = 2 then i + 2 else i + 1) (vs.map (mj_v ad)) = (i, mj_v ad v) :: mj_l ad (lv_args _ vs)
    rw [ih, mj_cat]
theorem mj_endQ {G : CX} {s t : State} {h1 : MH} {H : Heap} {locs : List Loc} {args : Array Value} {r : Option Value} (hR : mj_Rep G s h1 H locs) (ht : t.heap = H) (hW : s.WarmedH t.vm) : mj_Qc G r h1 args s (.returned (r.map (mj_v G.ad))) t := by
  refine ⟨rfl, ?_, ?_⟩
  · rw [ht]
    refine hR.move hW.alike (fun q _ => by rw [ht]) ?_ (fun _ h => by cases h)
    rw [ht]
    have h1 := hR.1
    have h2 := hR.2.1
    omega
  · intro q hq
    rw [ht]
    exact hR.2.2.2.2.2.2.1 q hq
/-- from the walk of its body to its contract; 'fin' is what its return does -/
theorem Mt.of {mi : MI} {d : Nat} {av : List Value} {h h1 : MH} {r : Option Value} {lv lv1 : List (Nat × Value)} {pc1 : Nat} (hy : plainName mi.1.cls = true) (hlv : lv_args 0 av = lv) (hn : (av.map Value.category).sum ≤ mi.2.2.1)
    (A : Go mi d h 0 lv [] h pc1 lv1 r.toList h1)
    (fin : ∀ (G : CX) (p : Program) (e : Env) (R : Room) (s : State) (m : MethodId) (args : Array Value) (below : List Frame) (meth : Method) (c : Code) (cells slots : Nat) (H : Heap) (locs : List Loc) (ls : Array Slot) (Qc : Array Value → State → Outcome → State → Prop), mj_Fr mi p s m args meth c → (∀ t : State, t.heap = H → s.WarmedH t.vm → Qc args s (.returned (r.map (mj_v G.ad))) t) → (∀ q ∈ locs, G.base ≤ q.base) →
      W p G.l e R s m args below meth c H locs cells slots (MQ below Qc args s cells slots (fun q => G.base ≤ q)) (F0 m pc1 ls (r.toList.map (mj_v G.ad)))) : Mt mi d av h r h1 := by
  obtain ⟨a1, a2, a3⟩ := A
  refine ⟨a1, a2, fun G => Met.ofW (cc := mi.2.1) (maxL := mi.2.2.1) (ret := mi.2.2.2) (ws' := mj_tbl) hy rfl ?_⟩
  intro p e s m args below meth c s₁ B hml hv
  obtain ⟨rfl, hX, hR⟩ := hv
  have hts : ∀ w ∈ mj_tbl, w.before (av.map (mj_v G.ad)).toArray s = true := fun w hw => atoms_spec (ws := mj_ws mi) B.pre w (List.mem_cons_of_mem _ hw)
  have hF : mj_Fr mi p s m (av.map (mj_v G.ad)).toArray meth c := ⟨B.exec, B.bytes, hml, findClass_of_methodNamed B.named, hts, (name_of_methodNamed B.named B.method).1, B.returns, B.notSynchronized⟩
  have hl := lv_entry (av.map (mj_v G.ad)) (n := mi.2.2.1) (by rw [mj_sl]; exact hn)
  rw [lg_entry_eq]
  generalize (lg_sl (av.map (mj_v G.ad)) ++ List.replicate (mi.2.2.1 - (lg_sl (av.map (mj_v G.ad))).length) Slot.unset).toArray = ls at hl ⊢
  rw [mj_largs, hlv] at hl
  have K := a3 G p e { frames := d, cells := h1.2.1 - h.2.1, slots := h1.2.2 - h.2.2, locals := 64 * d } s m (av.map (mj_v G.ad)).toArray below meth c (MQ below (mj_Qc G r h1) (av.map (mj_v G.ad)).toArray s (h1.2.1 - h.2.1) (h1.2.2 - h.2.2) (fun q => G.base ≤ q)) hF hX (Nat.le_refl _) (Nat.le_refl _) (Nat.le_refl _) (Nat.le_refl _) (Nat.le_refl _) (Nat.le_refl _)
    (fun H locs ls hR1 _ => fin G p e _ s m _ below meth c _ _ H locs ls (mj_Qc G r h1) hF (fun t ht hW => mj_endQ hR1 ht hW) hR1.2.2.2.2.2.2.2.2) s.heap [] ls hR hl
  rw [Nat.sub_self, Nat.sub_self] at K
  exact K
theorem Mt.ofi {mi : MI} {d : Nat} {av : List Value} {h h1 : MH} {v : Int32} {lv lv1 : List (Nat × Value)} {pc1 : Nat} {ty : FieldType} (hy : plainName mi.1.cls = true) (hlv : lv_args 0 av = lv) (hn : (av.map Value.category).sum ≤ mi.2.2.1) (hr : mi.2.2.2 = some ty) (hnr : narrow ty (.int v) = .int v) (hd : decode mi.2.1 pc1 = .ok (.ireturn, 1))
    (A : Go mi d h 0 lv [] h pc1 lv1 [.int v] h1) : Mt mi d av h (some (.int v)) h1 :=
  Mt.of (r := some (.int v)) hy hlv hn A (fun G p e R s m args below meth c cells slots H locs ls Qc hF hq hf => W.zret hF.1 hF.2.1 (hF.2.2.2.2.2.2.1.trans hr) hnr hq hf hd hF.2.2.2.2.2.2.2)
theorem Mt.ofl {mi : MI} {d : Nat} {av : List Value} {h h1 : MH} {v : Int64} {lv lv1 : List (Nat × Value)} {pc1 : Nat} (hy : plainName mi.1.cls = true) (hlv : lv_args 0 av = lv) (hn : (av.map Value.category).sum ≤ mi.2.2.1) (hr : mi.2.2.2 = some .long) (hd : decode mi.2.1 pc1 = .ok (.lreturn, 1))
    (A : Go mi d h 0 lv [] h pc1 lv1 [.long v] h1) : Mt mi d av h (some (.long v)) h1 :=
  Mt.of (r := some (.long v)) hy hlv hn A (fun G p e R s m args below meth c cells slots H locs ls Qc hF hq hf => W.lret hF.1 hF.2.1 (hF.2.2.2.2.2.2.1.trans hr) hq hf hd hF.2.2.2.2.2.2.2)
theorem Mt.ofv {mi : MI} {d : Nat} {av : List Value} {h h1 : MH} {lv lv1 : List (Nat × Value)} {pc1 : Nat} (hy : plainName mi.1.cls = true) (hlv : lv_args 0 av = lv) (hn : (av.map Value.category).sum ≤ mi.2.2.1) (hr : mi.2.2.2 = none) (hd : decode mi.2.1 pc1 = .ok (.return_, 1))
    (A : Go mi d h 0 lv [] h pc1 lv1 [] h1) : Mt mi d av h none h1 :=
  Mt.of (r := none) hy hlv hn A (fun G p e R s m args below meth c cells slots H locs ls Qc hF hq hf => W.vret hF.1 hF.2.1 (hF.2.2.2.2.2.2.1.trans hr) hq hf hd hF.2.2.2.2.2.2.2)
theorem Mt.ofr {mi : MI} {d : Nat} {av : List Value} {h h1 : MH} {o : Option Nat} {lv lv1 : List (Nat × Value)} {pc1 : Nat} {nm : String} (hy : plainName mi.1.cls = true) (hlv : lv_args 0 av = lv) (hn : (av.map Value.category).sum ≤ mi.2.2.1) (hr : mi.2.2.2 = some (.object nm)) (hd : decode mi.2.1 pc1 = .ok (.areturn, 1))
    (A : Go mi d h 0 lv [] h pc1 lv1 [va_rf o] h1) : Mt mi d av h (some (va_rf o)) h1 :=
  Mt.of (r := some (va_rf o)) hy hlv hn A (fun G p e R s m args below meth c cells slots H locs ls Qc hF hq hf => by
    have e1 : (some (va_rf o)).toList.map (mj_v G.ad) = [va_rf (o.map G.ad)] := by simp [mj_vrf]
    have e2 : (some (va_rf o)).map (mj_v G.ad) = some (va_rf (o.map G.ad)) := by simp [mj_vrf]
    rw [e1]
    rw [e2] at hq
    exact W.aret hF.1 hF.2.1 (hF.2.2.2.2.2.2.1.trans hr) (Or.inl ⟨nm, rfl⟩) (by cases o with | none => exact Or.inl rfl | some a => exact Or.inr ⟨_, rfl⟩) hq hf hd hF.2.2.2.2.2.2.2)
/-! ===== calls ===== -/
/-- what every call of method mi asks of the tables; n: its arguments -/
def mj_M (mi : MI) (n : Nat) : Prop := Cond.code mi.1 mi.2.1 mi.2.2.1 mi.2.2.2 ∈ mj_tbl ∧ Cond.initialized mi.1.cls ∈ mj_tbl ∧ (mi.1.cls ≠ "java/lang/invoke/MethodHandle" ∧ mi.1.cls ≠ "java/lang/invoke/VarHandle") ∧ (parseMethodDescriptor mi.1.desc).map (fun d => d.parameters.length) = some n ∧ mi.2.2.1 ≤ 40
theorem mj_wsIn {mi : MI} {n : Nat} (h : mj_M mi n) : GoodIn mj_tbl (mj_ws mi) := fun w hw => by
  rcases List.mem_cons.mp hw with rfl | hw
  · exact mj_tblIn _ h.1
  · exact mj_tblIn _ hw
theorem mj_blind (G : CX) (av : List Value) (h : MH) : FrameBlind (mj_Pc G av h) := by
  intro a U g mk q
  obtain ⟨h1, h2, h3⟩ := q
  exact ⟨h1, mj_Fx.move (s := U) (U := U.calling g mk a) (State.WarmedH.refl U) h2, mj_Rep.move (s := U) (U := U.calling g mk a) (Vm.Alike.refl U.vm) h3 (fun q _ => rfl) h3.2.2.2.2.2.2.2.1 (fun _ h => by cases h)⟩
theorem mj_start {G : CX} {s U : State} {h : MH} {H : Heap} {locs : List Loc} (hX : mj_Fx G s) (hR : mj_Rep G s h H locs) (hU : U.heap = H) (hW : s.WarmedH U.vm) (av : List Value) : mj_Pc G av h (av.map (mj_v G.ad)).toArray U := by
  refine ⟨rfl, hX.move hW, ?_⟩
  rw [hU]
  refine hR.move hW.alike (fun q _ => by rw [hU]) ?_ (fun _ h => by cases h)
  rw [hU]
  have h1 := hR.1
  have h2 := hR.2.1
  omega
section GO5
variable {mi mi2 : MI} {d d2 : Nat} {h0 : MH} {pc pc1 pc2 : Nat} {lv lv2 : List (Nat × Value)} {st st1 st2 : List Value} {h h1 h2 : MH} {r : Option Value}
/-- behind a call -/
theorem mj_back {G : CX} {p : Program} {e : Env} {R : Room} {s : State} {m : MethodId} {args : Array Value} {below : List Frame} {meth : Method} {c : Code} {Q : State → Prop} {H : Heap} {locs : List Loc} {cells slots mc ms : Nat} {ls : Array Slot} {st0 rest : List Value} {a : Array Value} {pc : Nat}
    (hr : va_Run p G.l e R s m args below meth c H locs cells slots mc ms (F0 m pc ls st0) rest (mj_Qc G r h1 a) (fun q => G.base ≤ q)) (hR : mj_Rep G s h H locs)
    (kk : ∀ (H1 : Heap) (locs1 : List Loc), mj_Rep G s h1 H1 locs1 → W p G.l e R s m args below meth c H1 locs1 (cells + mc) (slots + ms) Q (F0 m (pc + 3) ls ((r.map (mj_v G.ad)).toList ++ rest))) : W p G.l e R s m args below meth c H locs cells slots Q (F0 m pc ls st0) := by
  intro T hT X
  obtain ⟨v, st₀, t, T', L, e0, X', hL, e1, e2, ⟨hv, hR1, hq⟩, st⟩ := hr T hT X
  cases hv
  have hA : t.vm.Alike s.vm := by rw [← e2]; exact X'.warmed.alike.symm
  have hR2 : mj_Rep G s h1 T'.heap (locs ++ L) := by
    rw [e1]
    refine hR1.move hA (fun q hq1 => ?_) hR.2.2.2.2.2.2.2.1 (fun q hq1 => ?_)
    · rw [hq q hq1, e0]
      exact hR.2.2.2.2.2.2.1 q hq1
    · rcases List.mem_append.mp hq1 with h | h
      · exact hR.2.2.2.2.2.2.2.2 q h
      · exact hL q h
  obtain ⟨t2, a1, b1⟩ := kk T'.heap (locs ++ L) hR2 T' rfl X'
  exact ⟨t2, st t2 a1, b1⟩
/-- a call, in general: how it runs is the rows' business -/
theorem Go.call {av : List Value} (hM : Mt mi2 d2 av h r h1) (hd2 : d2 + 1 ≤ d)
    (A : ∀ (G : CX) (p : Program) (e : Env) (R : Room) (s : State) (m : MethodId) (args : Array Value) (below : List Frame) (meth : Method) (c : Code) (cells slots : Nat) (H : Heap) (locs : List Loc) (ls : Array Slot),
      mj_Fr mi p s m args meth c → mj_Fx G s → d ≤ R.frames → 64 * d ≤ R.locals → cells + (h1.2.1 - h.2.1) ≤ R.cells ∧ slots + (h1.2.2 - h.2.2) ≤ R.slots → mj_Rep G s h H locs → lv_has ls mi.2.2.1 (mj_l G.ad lv) →
      va_Run p G.l e R s m args below meth c H locs cells slots (h1.2.1 - h.2.1) (h1.2.2 - h.2.2) (F0 m pc ls (st1.map (mj_v G.ad))) (st.map (mj_v G.ad)) (mj_Qc G r h1 (av.map (mj_v G.ad)).toArray) (fun q => G.base ≤ q))
    (B : Go mi d h0 (pc + 3) lv (r.toList ++ st) h1 pc2 lv2 st2 h2) : Go mi d h0 pc lv st1 h pc2 lv2 st2 h2 := by
  obtain ⟨b1, b2, b3⟩ := B
  obtain ⟨m1, m2, -⟩ := hM
  refine ⟨Nat.le_trans m1 b1, Nat.le_trans m2 b2, fun G p e R s m args below meth c Q hF hX g1 g2 g3 g4 g5 g6 hQ H locs ls hR hl => ?_⟩
  refine mj_back (A G p e R s m args below meth c _ _ H locs ls hF hX g3 g4 (by omega) hR hl) hR (fun H1 locs1 hR1 => ?_)
  have K := b3 G p e R s m args below meth c Q hF hX (Nat.le_trans g1 m1) (Nat.le_trans g2 m2) g3 g4 g5 g6 hQ H1 locs1 ls hR1 hl
  have e1 : h.2.1 - h0.2.1 + (h1.2.1 - h.2.1) = h1.2.1 - h0.2.1 := by omega
  have e2 : h.2.2 - h0.2.2 + (h1.2.2 - h.2.2) = h1.2.2 - h0.2.2 := by omega
  rw [e1, e2]
  have e3 : (r.map (mj_v G.ad)).toList ++ st.map (mj_v G.ad) = (r.toList ++ st).map (mj_v G.ad) := by cases r <;> rfl
  rw [e3]
  exact K
theorem mj_rm {hd2 : d2 + 1 ≤ d} {n : Nat} (hm : mj_M mi2 n) {R : Room} (g3 : d ≤ R.frames) (g4 : 64 * d ≤ R.locals) : d2 + 1 ≤ R.frames ∧ 8 + (mi2.2.2.1 + 11) + 64 * d2 ≤ R.locals := by
  have h1 := hm.2.2.2.2
  have h2 : 64 * (d2 + 1) ≤ 64 * d := Nat.mul_le_mul_left 64 hd2
  omega
theorem mj_rest {ad : Nat → Nat} {st : List Value} {m : MethodId} {pc : Nat} {ls : Array Slot} {st0 : List Value} (hst : st.length ≤ 4) : 2 * (F0 m pc ls st0).monitorRoom + ((st.map (mj_v ad)).map fun v => v.category).sum ≤ 8 := by
  refine lv_room ?_
  have key : ∀ (l : List Value), (l.map fun v => v.category).sum ≤ 2 * l.length := by
    intro l
    induction l with
    | nil => exact Nat.le_refl _
    | cons v t ih =>
      rw [List.map_cons, List.sum_cons, List.length_cons]
      rcases lv_cat v with h | h <;> omega
  have := key (st.map (mj_v ad))
  rw [List.length_map] at this
  omega
theorem mj_rev {ad : Nat → Nat} (As st : List Value) : (As.reverse ++ st).map (mj_v ad) = (As.map (mj_v ad)).reverse ++ st.map (mj_v ad) := by
  rw [List.map_append, List.map_reverse]
/-- a static method, of any class -/
theorem go_callS {idx n : Nat} (As : List Value) (hM : Mt mi2 d2 As h r h1) (hm : mj_M mi2 n) (hd2 : d2 + 1 ≤ d) (hd : decode mi.2.1 pc = .ok (.invokestatic idx, 3)) (hl : Cond.methodLink mi.1.cls idx mi2.1 ∈ mj_tbl) (hs : Cond.static mi2.1 ∈ mj_tbl) (hn : As.length = n) (hst : st.length ≤ 4) (hstk : As.reverse ++ st = st1)
    (B : Go mi d h0 (pc + 3) lv (r.toList ++ st) h1 pc2 lv2 st2 h2) : Go mi d h0 pc lv st1 h pc2 lv2 st2 h2 := by
  subst hstk
  refine Go.call hM hd2 (fun G p e R s m args below meth c cells slots H locs ls hF hX g3 g4 g5 hR hlv => ?_) B
  have hts := hF.2.2.2.2.1
  have rm := mj_rm (hd2 := hd2) hm g3 g4
  refine va_runS (As := As.map (mj_v G.ad)) (Ts := mj_tbl) ⟨hF.1, hF.2.1, hF.2.2.1, hF.2.2.2.1, hts⟩ (hM.2.2 G) ⟨callB_of n hts (mj_wsIn hm) rfl rfl rfl (hts _ hm.2.1) (hts _ hl) ⟨hm.2.2.1.1, hm.2.2.1.2, hm.2.2.2.1⟩ rm, hts _ hs⟩ ⟨mj_blind G As h, fun U hU hW => mj_start hX hR hU hW As⟩ rfl (by rw [List.length_map]; exact hn) hlv.1 (mj_rev As st) (mj_rest hst) hd g5
/-- a static method of a nest mate, that is private there -/
theorem go_callSN {idx n : Nat} {host : String} (As : List Value) (hM : Mt mi2 d2 As h r h1) (hm : mj_M mi2 n) (hd2 : d2 + 1 ≤ d) (hd : decode mi.2.1 pc = .ok (.invokestatic idx, 3)) (hl : Cond.methodLinkNest mi.1.cls idx mi2.1 host ∈ mj_bad) (hs : Cond.static mi2.1 ∈ mj_tbl) (hn : As.length = n) (hst : st.length ≤ 4) (hstk : As.reverse ++ st = st1)
    (B : Go mi d h0 (pc + 3) lv (r.toList ++ st) h1 pc2 lv2 st2 h2) : Go mi d h0 pc lv st1 h pc2 lv2 st2 h2 := by
  subst hstk
  refine Go.call hM hd2 (fun G p e R s m args below meth c cells slots H locs ls hF hX g3 g4 g5 hR hlv => ?_) B
  have hts := hF.2.2.2.2.1
  have rm := mj_rm (hd2 := hd2) hm g3 g4
  refine va_runSN (As := As.map (mj_v G.ad)) (Ts := mj_tbl) ⟨hF.1, hF.2.1, hF.2.2.1, hF.2.2.2.1, hts⟩ (hM.2.2 G) ⟨va_cnB n hts (mj_wsIn hm) rfl rfl rfl (hX.2.2.2.1 _ hl) (hts _ hm.2.1) ⟨hm.2.2.1.1, hm.2.2.1.2, hm.2.2.2.1⟩ rm, hts _ hs, trivial⟩ ⟨mj_blind G As h, fun U hU hW => mj_start hX hR hU hW As⟩ rfl (by rw [List.length_map]; exact hn) hlv.1 (mj_rev As st) (mj_rest hst) hd g5
theorem mj_objS {o : Option Nat} {c : Nat} {fs : List Value} (hg : mj_obj h o = some (c, fs)) : ∃ a, o = some a ∧ h.1 a = .inr (.inr (c, fs)) := by
  cases o with
  | none => simp [mj_obj] at hg
  | some a =>
    simp only [mj_obj] at hg
    split at hg
    · next q e => cases hg; exact ⟨a, rfl, e⟩
    · cases hg
/-- the class of the object at o -/
def cls (h : MH) (o : Option Nat) : Option Nat := (mj_obj h o).bind fun q => if q.2 = [] then none else some q.1
theorem cls_spec {o : Option Nat} {c : Nat} (hg : cls h o = some c) : ∃ fs, mj_obj h o = some (c, fs) ∧ fs ≠ [] := by
  unfold cls at hg
  obtain ⟨⟨c', fs⟩, h1, h2⟩ := Option.bind_eq_some_iff.mp hg
  by_cases hf : fs = []
  · rw [if_pos hf] at h2; cases h2
  · rw [if_neg hf] at h2
    cases h2
    exact ⟨fs, h1, hf⟩
/-- an instance method that the receiver's class itself has -/
theorem go_callV {idx n ci : Nat} {o : Option Nat} {q : vw_C} (As : List Value) (hM : Mt mi2 d2 (va_rf o :: As) h r h1) (hm : mj_M mi2 n) (hd2 : d2 + 1 ≤ d) (hd : decode mi.2.1 pc = .ok (.invokevirtual idx, 3)) (hg : cls h o = some ci) (hq : mj_cl[ci]? = some q) (hqc : q.1 = mi2.1.cls) (hl : Cond.methodLink mi.1.cls idx mi2.1 ∈ mj_tbl) (hi : Cond.instanceMethod mi2.1 ∈ mj_tbl) (hs : Cond.selects mi2.1.cls mi2.1 mi2.1 ∈ mj_tbl) (hn : As.length = n) (hst : st.length ≤ 4) (hstk : As.reverse ++ va_rf o :: st = st1)
    (B : Go mi d h0 (pc + 3) lv (r.toList ++ st) h1 pc2 lv2 st2 h2) : Go mi d h0 pc lv st1 h pc2 lv2 st2 h2 := by
  subst hstk
  obtain ⟨fs, hob, hne⟩ := cls_spec hg
  obtain ⟨a, rfl, ha⟩ := mj_objS hob
  refine Go.call hM hd2 (fun G p e R s m args below meth c cells slots H locs ls hF hX g3 g4 g5 hR hlv => ?_) B
  have hts := hF.2.2.2.2.1
  have rm := mj_rm (hd2 := hd2) hm g3 g4
  obtain ⟨h3, hlt, hat⟩ := mj_obj_at hR ha hne
  have hrec := va_recv hX.1 (mj_P1 hat) (q0 := 0) hq rfl
  rw [hqc] at hrec
  refine va_runV (As := As.map (mj_v G.ad)) (b := G.ad a) (Ts := mj_tbl) ⟨hF.1, hF.2.1, hF.2.2.1, hF.2.2.2.1, hts⟩ (hM.2.2 G) ⟨callB_of n hts (mj_wsIn hm) rfl rfl rfl (hts _ hm.2.1) (hts _ hl) ⟨hm.2.2.1.1, hm.2.2.1.2, hm.2.2.2.1⟩ rm, hts _ hi, hts _ hs⟩ ⟨mj_blind G _ h, hrec, fun U hU hW => mj_start hX hR hU hW (va_rf (some a) :: As)⟩ rfl (by rw [List.length_map]; exact hn) hlv.1 (mj_rev As (va_rf (some a) :: st)) (mj_rest hst) hd g5
/-- a method that the reference names as x, and the receiver's class selects as mi2's -/
theorem go_callU {idx n ci : Nat} {o : Option Nat} {q : vw_C} {x : MethodName} {owner : String} (As : List Value) (hM : Mt mi2 d2 (va_rf o :: As) h r h1) (hm : mj_M mi2 n) (hd2 : d2 + 1 ≤ d) (hd : decode mi.2.1 pc = .ok (.invokevirtual idx, 3)) (hg : cls h o = some ci) (hq : mj_cl[ci]? = some q) (hl : Cond.methodLink mi.1.cls idx x ∈ mj_tbl) (hsm : Cond.sameMethod x.cls owner x.name x.desc ∈ mj_tbl)
    (hde : (∃ (b0 : ByteArray) (m0 : Nat) (r0 : Option FieldType), Cond.instanceMethod ⟨owner, x.name, x.desc⟩ ∈ mj_tbl ∧ Cond.code ⟨owner, x.name, x.desc⟩ b0 m0 r0 ∈ mj_tbl) ∨ Cond.declares ⟨owner, x.name, x.desc⟩ ∈ mj_bad)
    (how : (owner ≠ "java/lang/invoke/MethodHandle" ∧ owner ≠ "java/lang/invoke/VarHandle") ∧ (parseMethodDescriptor x.desc).map (fun d => d.parameters.length) = some n)
    (hs : Cond.selects q.1 x mi2.1 ∈ mj_tbl) (hi : Cond.instanceMethod mi2.1 ∈ mj_tbl) (hn : As.length = n) (hst : st.length ≤ 4) (hstk : As.reverse ++ va_rf o :: st = st1)
    (B : Go mi d h0 (pc + 3) lv (r.toList ++ st) h1 pc2 lv2 st2 h2) : Go mi d h0 pc lv st1 h pc2 lv2 st2 h2 := by
  subst hstk
  obtain ⟨fs, hob, hne⟩ := cls_spec hg
  obtain ⟨a, rfl, ha⟩ := mj_objS hob
  refine Go.call hM hd2 (fun G p e R s m args below meth c cells slots H locs ls hF hX g3 g4 g5 hR hlv => ?_) B
  have hts := hF.2.2.2.2.1
  have rm := mj_rm (hd2 := hd2) hm g3 g4
  obtain ⟨h3, hlt, hat⟩ := mj_obj_at hR ha hne
  have hrec := va_recv hX.1 (mj_P1 hat) (q0 := 0) hq rfl
  have hdecl : va_Decl s ⟨owner, x.name, x.desc⟩ := by
    rcases hde with ⟨b0, m0, r0, k1, k2⟩ | k
    · exact va_Decl.of (hts _ k1) (hts _ k2)
    · exact va_Decl.abs (hX.2.2.2.1 _ k)
  refine va_runU (n := n) (As := As.map (mj_v G.ad)) (b := G.ad a) (C := q.1) (owner := owner) (x := x) (Ts := mj_tbl) ⟨hF.1, hF.2.1, hF.2.2.1, hF.2.2.2.1, hts⟩ (hM.2.2 G) ⟨⟨rfl, rfl, rm.1, rm.2, pay_in hts (mj_wsIn hm), List.mem_cons_self⟩, hts _ hm.1, hts _ hm.2.1, how.1, fun sig h => ?_, hts _ hl, hts _ hsm, hdecl, hts _ hs, hts _ hi⟩ ⟨mj_blind G _ h, hrec, fun U hU hW => mj_start hX hR hU hW (va_rf (some a) :: As)⟩ rfl (by rw [List.length_map]; exact hn) hlv.1 (mj_rev As (va_rf (some a) :: st)) (mj_rest hst) hd g5
  have h2 := how.2
  rw [h] at h2
  exact (Option.some.inj h2).symm
/-- super.m(..) -/
theorem go_callSU {idx n ci : Nat} {o : Option Nat} {q : vw_C} (As : List Value) (hM : Mt mi2 d2 (va_rf o :: As) h r h1) (hm : mj_M mi2 n) (hd2 : d2 + 1 ≤ d) (hd : decode mi.2.1 pc = .ok (.invokespecial idx, 3)) (hg : cls h o = some ci) (hq : mj_cl[ci]? = some q) (hl : Cond.methodLink mi.1.cls idx mi2.1 ∈ mj_tbl) (hsm : Cond.sameMethod mi2.1.cls mi2.1.cls mi2.1.name mi2.1.desc ∈ mj_tbl) (hsu : Cond.superclass mi.1.cls mi2.1.cls ∈ mj_tbl) (hi : Cond.instanceMethod mi2.1 ∈ mj_tbl) (hno : mi2.1.name ≠ "<init>") (hn : As.length = n) (hst : st.length ≤ 4) (hstk : As.reverse ++ va_rf o :: st = st1)
    (B : Go mi d h0 (pc + 3) lv (r.toList ++ st) h1 pc2 lv2 st2 h2) : Go mi d h0 pc lv st1 h pc2 lv2 st2 h2 := by
  subst hstk
  obtain ⟨fs, hob, hne⟩ := cls_spec hg
  obtain ⟨a, rfl, ha⟩ := mj_objS hob
  refine Go.call hM hd2 (fun G p e R s m args below meth c cells slots H locs ls hF hX g3 g4 g5 hR hlv => ?_) B
  have hts := hF.2.2.2.2.1
  have rm := mj_rm (hd2 := hd2) hm g3 g4
  obtain ⟨h3, hlt, hat⟩ := mj_obj_at hR ha hne
  have hrec := va_recv hX.1 (mj_P1 hat) (q0 := 0) hq rfl
  refine va_runSU (n := n) (C := q.1) (hX.1.1 ci _ hq).2 (As := As.map (mj_v G.ad)) (b := G.ad a) (Ts := mj_tbl) ⟨hF.1, hF.2.1, hF.2.2.1, hF.2.2.2.1, hts⟩ (hM.2.2 G) ⟨⟨rfl, rfl, rm.1, rm.2, pay_in hts (mj_wsIn hm), List.mem_cons_self⟩, hts _ hl, hts _ hsm, hts _ hsu, hts _ hi, hts _ hm.2.1, hts _ hm.1, hno, fun sig h => ?_⟩ ⟨mj_blind G _ h, hrec, fun U hU hW => mj_start hX hR hU hW (va_rf (some a) :: As)⟩ rfl (by rw [List.length_map]; exact hn) hlv.1 (mj_rev As (va_rf (some a) :: st)) (mj_rest hst) hd g5
  have h2 := hm.2.2.2.1
  rw [h] at h2
  exact (Option.some.inj h2).symm
/-- a constructor; of a nest mate, that is private there -/
theorem go_callI {idx n a : Nat} (As : List Value) (hM : Mt mi2 d2 (va_rf (some a) :: As) h none h1) (hm : mj_M mi2 n) (hret : mi2.2.2.2 = none) (hd2 : d2 + 1 ≤ d) (hd : decode mi.2.1 pc = .ok (.invokespecial idx, 3)) (hl : Cond.methodLink mi.1.cls idx mi2.1 ∈ mj_tbl) (hi : Cond.instanceMethod mi2.1 ∈ mj_tbl) (hno : mi2.1.name = "<init>") (hn : As.length = n) (hst : st.length ≤ 4) (hstk : As.reverse ++ va_rf (some a) :: st = st1)
    (B : Go mi d h0 (pc + 3) lv st h1 pc2 lv2 st2 h2) : Go mi d h0 pc lv st1 h pc2 lv2 st2 h2 := by
  subst hstk
  refine Go.call hM hd2 (fun G p e R s m args below meth c cells slots H locs ls hF hX g3 g4 g5 hR hlv => ?_) B
  have hts := hF.2.2.2.2.1
  have rm := mj_rm (hd2 := hd2) hm g3 g4
  obtain ⟨y2, cc2, nL2, ret2⟩ := mi2
  dsimp only at hret
  subst hret
  refine va_runI (As := As.map (mj_v G.ad)) (b := G.ad a) (Ts := mj_tbl) ⟨hF.1, hF.2.1, hF.2.2.1, hF.2.2.2.1, hts⟩ (hM.2.2 G) ⟨callB_of n hts (mj_wsIn hm) rfl rfl rfl (hts _ hm.2.1) (hts _ hl) ⟨hm.2.2.1.1, hm.2.2.1.2, hm.2.2.2.1⟩ rm, hno, hts _ hi⟩ ⟨mj_blind G _ h, fun U hU hW => mj_start hX hR hU hW (va_rf (some a) :: As)⟩ rfl (by rw [List.length_map]; exact hn) hlv.1 (mj_rev As (va_rf (some a) :: st)) (mj_rest hst) hd g5
theorem go_callIN {idx n a : Nat} {host : String} (As : List Value) (hM : Mt mi2 d2 (va_rf (some a) :: As) h none h1) (hm : mj_M mi2 n) (hret : mi2.2.2.2 = none) (hd2 : d2 + 1 ≤ d) (hd : decode mi.2.1 pc = .ok (.invokespecial idx, 3)) (hl : Cond.methodLinkNest mi.1.cls idx mi2.1 host ∈ mj_bad) (hi : Cond.instanceMethod mi2.1 ∈ mj_tbl) (hno : mi2.1.name = "<init>") (hn : As.length = n) (hst : st.length ≤ 4) (hstk : As.reverse ++ va_rf (some a) :: st = st1)
    (B : Go mi d h0 (pc + 3) lv st h1 pc2 lv2 st2 h2) : Go mi d h0 pc lv st1 h pc2 lv2 st2 h2 := by
  subst hstk
  refine Go.call hM hd2 (fun G p e R s m args below meth c cells slots H locs ls hF hX g3 g4 g5 hR hlv => ?_) B
  have hts := hF.2.2.2.2.1
  have rm := mj_rm (hd2 := hd2) hm g3 g4
  obtain ⟨y2, cc2, nL2, ret2⟩ := mi2
  dsimp only at hret
  subst hret
  refine va_runIN (As := As.map (mj_v G.ad)) (b := G.ad a) (Ts := mj_tbl) ⟨hF.1, hF.2.1, hF.2.2.1, hF.2.2.2.1, hts⟩ (hM.2.2 G) ⟨va_cnB n hts (mj_wsIn hm) rfl rfl rfl (hX.2.2.2.1 _ hl) (hts _ hm.2.1) ⟨hm.2.2.1.1, hm.2.2.1.2, hm.2.2.2.1⟩ rm, hno, hts _ hi⟩ ⟨mj_blind G _ h, fun U hU hW => mj_start hX hR hU hW (va_rf (some a) :: As)⟩ rfl (by rw [List.length_map]; exact hn) hlv.1 (mj_rev As (va_rf (some a) :: st)) (mj_rest hst) hd g5
/-- Object's own constructor -/
theorem go_objI {idx : Nat} {o : Option Nat} (ho : o ≠ none) (hd1 : 1 ≤ d) (hd : decode mi.2.1 pc = .ok (.invokespecial idx, 3)) (hl : Cond.methodLink mi.1.cls idx objectInit ∈ mj_tbl) (hi : Cond.instanceMethod objectInit ∈ mj_tbl) (hc : Cond.code objectInit ⟨#[0xb1]⟩ 1 none ∈ mj_tbl) (hst : st.length ≤ 4) (B : Go mi d h0 (pc + 3) lv st h pc2 lv2 st2 h2) : Go mi d h0 pc lv (va_rf o :: st) h pc2 lv2 st2 h2 := by
  cases o with
  | none => exact absurd rfl ho
  | some a =>
    refine Go.one (fun G p e R s m args below meth c Q cells slots H locs ls hF hX g3 g4 hR hlv K => ?_) B
    have hts := hF.2.2.2.2.1
    refine W.objInit hF.1 hF.2.1 hF.2.2.2.1 (hts _ hl) (hts _ hi) (hts _ hc) rfl (by rw [hF.2.2.1]; exact hlv.1) rfl hd (Nat.le_trans hd1 g3) ?_ (K ls hlv)
    have := mj_rest (ad := G.ad) (m := m) (pc := pc) (ls := ls) (st0 := []) hst
    have h0 : (F0 m pc ls ((va_rf (some a) :: st).map (mj_v G.ad))).monitorRoom = (F0 m pc ls []).monitorRoom := rfl
    rw [h0]
    omega
end GO5
