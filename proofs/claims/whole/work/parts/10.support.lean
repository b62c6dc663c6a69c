/-! ===== what the printed walks stand on ===== -/
abbrev q_0 : vw_C := (RX0, TX0, 8)
abbrev q_1 : vw_C := (RX1, TX1, 11)
abbrev q_2 : vw_C := (RX3, TX3, 3)
abbrev q_3 : vw_C := (RX4, TX4, 3)
abbrev q_4 : vw_C := (RX5, TX5, 3)
abbrev q_5 : vw_C := (RX6, TX6, 3)
abbrev q_6 : vw_C := (RX7, TX7, 14)
abbrev q_7 : vw_C := (RX8, TX8, 3)
abbrev q_8 : vw_C := (RX9, TX9, 3)
abbrev q_9 : vw_C := (RX10, TX10, 6)
abbrev q_10 : vw_C := (RX11, TX11, 10)
abbrev q_11 : vw_C := (RX12, TX12, 25)
/-- a new object's fields -/
def mj_new (c : Nat) : List Value := match mj_cl[c]? with
  | some q => (List.range q.2.2).map fun j => match parseFieldDescriptor (q.2.1 j).2.2.1 with
    | some ty => defaultValue ty
    | none => .null
  | none => []
def o_0 : List Value := [.null, .null, .null, .null, .null, .null, .int 0, .int 0]
def o_1 : List Value := [.int 0, .int 0, .int 0, .int 0, .int 0, .int 0, .int 0, .int 0, .int 0, .null, .null]
def o_2 : List Value := [.int 0, .int 0, .int 0]
def o_3 : List Value := [.int 0, .int 0, .int 0]
def o_4 : List Value := [.int 0, .int 0, .int 0]
def o_5 : List Value := [.null, .null, .null]
def o_6 : List Value := [.null, .null, .null, .null, .null, .null, .null, .null, .int 0, .int 0, .int 0, .int 0, .int 0, .int 0]
def o_7 : List Value := [.int 0, .int 0, .int 0]
def o_8 : List Value := [.int 0, .int 0, .int 0]
def o_9 : List Value := [.null, .int 0, .int 0, .int 0, .int 0, .int 0]
def o_10 : List Value := [.null, .null, .null, .null, .null, .null, .null, .null, .int 0, .int 0]
def o_11 : List Value := [.int 0, .null, .int 0, .int 0, .int 0, .int 0, .int 0, .int 0, .int 0, .int 0, .null, .null, .null, .int 0, .null, .null, .null, .null, .int 0, .null, .null, .null, .int 0, .null, .null]
theorem o_0_ok : (List.range q_0.2.2).map (fun j => (parseFieldDescriptor (q_0.2.1 j).2.2.1).map defaultValue) = o_0.map some := by decide +kernel
theorem o_1_ok : (List.range q_1.2.2).map (fun j => (parseFieldDescriptor (q_1.2.1 j).2.2.1).map defaultValue) = o_1.map some := by decide +kernel
theorem o_2_ok : (List.range q_2.2.2).map (fun j => (parseFieldDescriptor (q_2.2.1 j).2.2.1).map defaultValue) = o_2.map some := by decide +kernel
theorem o_3_ok : (List.range q_3.2.2).map (fun j => (parseFieldDescriptor (q_3.2.1 j).2.2.1).map defaultValue) = o_3.map some := by decide +kernel
theorem o_4_ok : (List.range q_4.2.2).map (fun j => (parseFieldDescriptor (q_4.2.1 j).2.2.1).map defaultValue) = o_4.map some := by decide +kernel
theorem o_5_ok : (List.range q_5.2.2).map (fun j => (parseFieldDescriptor (q_5.2.1 j).2.2.1).map defaultValue) = o_5.map some := by decide +kernel
theorem o_6_ok : (List.range q_6.2.2).map (fun j => (parseFieldDescriptor (q_6.2.1 j).2.2.1).map defaultValue) = o_6.map some := by decide +kernel
theorem o_7_ok : (List.range q_7.2.2).map (fun j => (parseFieldDescriptor (q_7.2.1 j).2.2.1).map defaultValue) = o_7.map some := by decide +kernel
theorem o_8_ok : (List.range q_8.2.2).map (fun j => (parseFieldDescriptor (q_8.2.1 j).2.2.1).map defaultValue) = o_8.map some := by decide +kernel
theorem o_9_ok : (List.range q_9.2.2).map (fun j => (parseFieldDescriptor (q_9.2.1 j).2.2.1).map defaultValue) = o_9.map some := by decide +kernel
theorem o_10_ok : (List.range q_10.2.2).map (fun j => (parseFieldDescriptor (q_10.2.1 j).2.2.1).map defaultValue) = o_10.map some := by decide +kernel
theorem o_11_ok : (List.range q_11.2.2).map (fun j => (parseFieldDescriptor (q_11.2.1 j).2.2.1).map defaultValue) = o_11.map some := by decide +kernel
def o_of (c : Nat) : List Value := match c with
  | 0 => o_0
  | 1 => o_1
  | 2 => o_2
  | 3 => o_3
  | 4 => o_4
  | 5 => o_5
  | 6 => o_6
  | 7 => o_7
  | 8 => o_8
  | 9 => o_9
  | 10 => o_10
  | _ => o_11
def newO (h : MH) (c : Nat) : Option MH := some (newo h c (o_of c))
def newA (h : MH) (t n : Nat) : Option MH := some (newa h t n)
def newQ (h : MH) (t n : Nat) : Option MH := some (newq h t n)
def mj_nz (y : Int32) : Option Unit := if y = 0 then none else some ()
def mj_nzl (y : Int64) : Option Unit := if y = 0 then none else some ()
theorem mj_nz_spec {y : Int32} {u : Unit} (e : mj_nz y = some u) : ¬ y = 0 := fun h => by unfold mj_nz at e; rw [if_pos h] at e; cases e
theorem mj_nzl_spec {y : Int64} {u : Unit} (e : mj_nzl y = some u) : ¬ y = 0 := fun h => by unfold mj_nzl at e; rw [if_pos h] at e; cases e
def mj_b01 (x : Int32) : Option Unit := if x &&& 1 = x then some () else none
theorem mj_b01_spec {x : Int32} {u : Unit} (e : mj_b01 x = some u) : x &&& 1 = x := by
  unfold mj_b01 at e
  by_cases h : x &&& 1 = x
  · exact h
  · rw [if_neg h] at e; cases e
def mj_hand (c : Nat) : Option Unit := if [2, 3, 4, 7, 8].contains c then some () else none
theorem mj_hand_spec {c : Nat} {u : Unit} (e : mj_hand c = some u) : ∃ q, mj_cl[c]? = some q := by
  unfold mj_hand at e
  by_cases h : [2, 3, 4, 7, 8].contains c = true
  · have := List.contains_iff_mem.mp h
    simp only [List.mem_cons, List.not_mem_nil, or_false] at this
    rcases this with rfl | rfl | rfl | rfl | rfl <;> exact ⟨_, rfl⟩
  · rw [if_neg h] at e; cases e
def mj_same (a b : Option Nat) : Option Unit := if a = b then some () else none
theorem mj_same_spec {a b : Option Nat} {u : Unit} (e : mj_same a b = some u) : a = b := by
  unfold mj_same at e
  by_cases h : a = b
  · exact h
  · rw [if_neg h] at e; cases e
theorem mj_some {o : Option Nat} {t : Nat} (e : o = some t) : o ≠ none := by rw [e]; exact fun z => by cases z
theorem mj_swn {x k : Int32} {v : Int} (h : ¬ x = k) (hk : k.toInt = v) : x.toInt ≠ v := fun z => h (Int32.toInt_inj.mp (z.trans hk.symm))
theorem mj_swd {pc tgt : Nat} {dflt lo hi : Int} {offs : Array Int} {x : Int32} (ks : List Int) (hx : ∀ k ∈ ks, x.toInt ≠ k) (hall : ((List.range offs.size).all (fun j => offs.getD j 0 == dflt || ks.contains (lo + j)) && decide (hi - lo < offs.size)) = true) (ht : (pc : Int) + dflt = (tgt : Int)) : (pc : Int) + mj_sw dflt lo hi offs x = (tgt : Int) := by
  rw [Bool.and_eq_true, decide_eq_true_eq] at hall
  unfold mj_sw
  by_cases h : x.toInt < lo ∨ hi < x.toInt
  · rw [if_pos h]; exact ht
  · rw [if_neg h]
    have hj : (x.toInt - lo).toNat < offs.size := by omega
    have h1 := List.all_eq_true.mp hall.1 _ (List.mem_range.mpr hj)
    rw [Bool.or_eq_true] at h1
    rcases h1 with h1 | h1
    · rw [eq_of_beq h1]; exact ht
    · have h2 := List.contains_iff_mem.mp h1
      exact absurd (by omega) (hx _ h2)
theorem mj_lwo : ∀ (ps : List (Int × Int)) (dflt v : Int), (∀ k ∈ ps.map Prod.fst, v ≠ k) → Op.lookupswitch.offset ps dflt v = dflt
  | [], _, _, _ => rfl
  | (a, o) :: r, dflt, v, h => by
    rw [Op.lookupswitch.offset_cons, if_neg]
    · exact mj_lwo r dflt v (fun k hk => h k (List.mem_cons_of_mem _ hk))
    · exact fun z => h a List.mem_cons_self z.symm
theorem mj_lwd {pc tgt : Nat} {dflt : Int} {ps : Array (Int × Int)} {x : Int32} (hx : ∀ k ∈ ps.toList.map Prod.fst, x.toInt ≠ k) (ht : (pc : Int) + dflt = (tgt : Int)) : (pc : Int) + Op.lookupswitch.offset ps.toList dflt x.toInt = (tgt : Int) := by
  rw [mj_lwo _ _ _ hx]
  exact ht
/-- an invokestatic whose named class only inherits the method: asking for it first makes it ready, and changes nothing else -/
theorem mj_askUp {Q : Unit → Pre} {E : CtlPost} {e : Env} {d : Bool} {acts : List Action} {s s0 : State} {f : JFrame} {index ci n c : Nat} {mk : MethodId} {dk ck : Class} {cf : ClassFile} {nm ds : String} (hs : s.topJava?.isSome) (hp : e.platform.polymorphicOnlyByInvokevirtual = true)
    (hW : s0.WarmedH s.vm) (hE : s0.MethodEntryUp e s.vm f.method.cls index c mk ci) (k1 : s0.vm.classes[f.method.cls]? = some dk) (k2 : dk.cf = some cf) (k3 : cf.constantPool[index]? = some (.methodref ci n)) (k4 : cf.constantPool.nameAndType? n = some (nm, ds))
    (hck : s0.vm.classes[c]? = some ck) (hno : (ck.methods.any fun z => z.name == nm && !z.isStatic && signaturePolymorphic ck z) = false) :
    wp (invokestatic.sem index) Q E e d acts (s.setTop f) ↔ wp (invokestatic.sem index) Q E e d acts ((s.setVm (s.vm.calledUp f.method.cls ci index c mk)).setTop f) := by
  obtain ⟨g1, g2, g3, g4⟩ := hE.classFirst
  obtain ⟨a0, b0, e0⟩ := hW.alike.2.2 _ _ k1
  obtain ⟨a2, b2, e2⟩ := hE.warmed.alike.2.2 _ _ k1
  obtain ⟨a3, b3, e3⟩ := g3.alike.2.2 _ _ hck
  obtain ⟨a4, b4, e4⟩ := hE.warmed.alike.2.2 _ _ hck
  have k3' : cf.constantPool[index]? = some (if false then .interfaceMethodref ci n else .methodref ci n) := k3
  have m0 := memberRef_ask_via (e := e) b0 (by rw [e0]; exact k2) k3' k4
  have m2 := memberRef_ask_via (e := e) b2 (by rw [e2]; exact k2) k3' k4
  have n3 : (a3.methods.any fun z => z.name == nm && !z.isStatic && signaturePolymorphic a3 z) = false := by rw [e3]; exact hno
  have n4 : (a4.methods.any fun z => z.name == nm && !z.isStatic && signaturePolymorphic a4 z) = false := by rw [e4]; exact hno
  have t1 : (s.setVm (s.vm.noted f.method.cls ci (.cls c))).topJava?.isSome := hs
  have t2 : (s.setVm (s.vm.calledUp f.method.cls ci index c mk)).topJava?.isSome := hs
  have r1 : ∀ {Q' : ClassId → Pre} {d' : Bool} {acts' : List Action}, wp (Jvm.resolveClassAt ci) Q' E e d' acts' (s.setTop f) ↔ Q' c d' acts' ((s.setVm (s.vm.noted f.method.cls ci (.cls c))).setTop f) := W.resolveClassAt_links (t := s.setTop f) (State.method?_setTop f hs) g1
  have r2 : ∀ {Q' : MethodId → Pre} {d' : Bool} {acts' : List Action}, wp (Jvm.resolveMethodAt index) Q' E e d' acts' ((s.setVm (s.vm.noted f.method.cls ci (.cls c))).setTop f) ↔ Q' mk d' acts' ((s.setVm (s.vm.calledUp f.method.cls ci index c mk)).setTop f) := W.resolveMethodAt_links (t := (s.setVm (s.vm.noted f.method.cls ci (.cls c))).setTop f) (State.method?_setTop f t1) g4
  have r3 := @W.resolveClassAt_ready
  simp [invokestatic.sem, hp, Seam.memberRefOf, State.method?_setTop f hs, State.method?_setTop f t2, m0, m2, r1, W.resolveClassAt_ready (s := (s.setVm (s.vm.calledUp f.method.cls ci index c mk)).setTop f) (State.method?_setTop f t2) hE.classReady,
    b3, b4, n3, n4, r2, W.resolveMethodAt_ready (s := (s.setVm (s.vm.calledUp f.method.cls ci index c mk)).setTop f) (State.method?_setTop f t2) hE.ready, -Array.any_eq_true]
section GO6
variable {mi mi2 : MI} {d d2 : Nat} {h0 : MH} {pc pc2 : Nat} {lv lv2 : List (Nat × Value)} {st st1 st2 : List Value} {h h1 h2 : MH} {v : Value}
theorem go_newO {idx ci : Nat} {q : vw_C} (hd : decode mi.2.1 pc = .ok (.new idx, 3)) (hcl : mj_cl[ci]? = some q) (hfs : (List.range q.2.2).map (fun j => (parseFieldDescriptor (q.2.1 j).2.2.1).map defaultValue) = (o_of ci).map some) (htv : ∀ ad, (o_of ci).map (mj_v ad) = o_of ci) (hw1 : Cond.classLink mi.1.cls idx q.1 ∈ mj_tbl) (hw2 : Cond.instantiable q.1 q.2.2 ∈ mj_tbl) (hw3 : Cond.initialized q.1 ∈ mj_tbl) (e : newO h ci = some h1) (B : Go mi d h0 (pc + 3) lv (va_rf (some h.2.1) :: st) h1 pc2 lv2 st2 h2) : Go mi d h0 pc lv st h pc2 lv2 st2 h2 := by
  cases e
  exact go_new hd hcl hfs htv hw1 hw2 hw3 B
theorem go_newA {atype : ArrayType} {t N : Nat} {n : Int32} (ht : t < 2) (hty : newarray.typeOf atype = mj_aty t) (hd : decode mi.2.1 pc = .ok (.newarray atype, 2)) (hw : Cond.arrayClass (mj_aty t) ∈ mj_tbl) (hn : ¬ n < 0) (hN : n.toNatClampNeg = N) (hb : N ≤ 100000) (e : newA h t N = some h1) (B : Go mi d h0 (pc + 2) lv (va_rf (some h.2.1) :: st) h1 pc2 lv2 st2 h2) : Go mi d h0 pc lv (.int n :: st) h pc2 lv2 st2 h2 := by
  cases e
  exact go_newa ht hty hd hw hn hN hb B
theorem go_newQ {idx t N : Nat} {C : String} {n : Int32} (ht : t = 2 ∨ t = 3) (hty : mj_aty t = .object C) (hd : decode mi.2.1 pc = .ok (.anewarray idx, 3)) (hw : Cond.classLink mi.1.cls idx C ∈ mj_tbl) (hw2 : Cond.arrayOver (.object C) ∈ mj_bad) (hn : ¬ n < 0) (hN : n.toNatClampNeg = N) (hb : N ≤ 100000) (e : newQ h t N = some h1) (B : Go mi d h0 (pc + 3) lv (va_rf (some h.2.1) :: st) h1 pc2 lv2 st2 h2) : Go mi d h0 pc lv (.int n :: st) h pc2 lv2 st2 h2 := by
  cases e
  exact go_newq ht hty hd hw hw2 hn hN hb B
theorem go_instC {idx : Nat} {o : Option Nat} {C : String} {c : Nat} {b : Bool} (hd : decode mi.2.1 pc = .ok (.instanceof idx, 3)) (hw : Cond.classLink mi.1.cls idx C ∈ mj_tbl) (hg : cls h o = some c) (hb : mj_is c C = some b) (B : Go mi d h0 (pc + 3) lv (.int (if b then 1 else 0) :: st) h pc2 lv2 st2 h2) : Go mi d h0 pc lv (va_rf o :: st) h pc2 lv2 st2 h2 := by
  obtain ⟨fs, h1, h2⟩ := cls_spec hg
  exact go_inst hd hw h1 h2 hb B
theorem go_cpyS {idx : Nat} {o o2 : Option Nat} {sp dp n : Int32} (ho : o = o2) (hd1 : 1 ≤ d) (hst : (st.map fun v => v.category).sum ≤ 8) (hd : decode mi.2.1 pc = .ok (.invokestatic idx, 3)) (hw1 : Cond.methodLink mi.1.cls idx arraycopyName ∈ mj_tbl) (hw2 : Cond.native arraycopyName ∈ mj_tbl) (hw3 : Cond.static arraycopyName ∈ mj_tbl) (hw4 : Cond.initialized "java/lang/System" ∈ mj_tbl) (hg : cpy h o sp dp n = some h1) (B : Go mi d h0 (pc + 3) lv st h1 pc2 lv2 st2 h2) : Go mi d h0 pc lv (.int n :: .int dp :: va_rf o2 :: .int sp :: va_rf o :: st) h pc2 lv2 st2 h2 := by
  subst ho
  exact go_cpy hd1 hst hd hw1 hw2 hw3 hw4 hg B
theorem go_callS1 {idx n : Nat} (As : List Value) (hM : Mt mi2 d2 As h (some v) h1) (hm : mj_M mi2 n) (hd2 : d2 + 1 ≤ d) (hd : decode mi.2.1 pc = .ok (.invokestatic idx, 3)) (hl : Cond.methodLink mi.1.cls idx mi2.1 ∈ mj_tbl) (hs : Cond.static mi2.1 ∈ mj_tbl) (hn : As.length = n) (hst : st.length ≤ 4) (hstk : As.reverse ++ st = st1)
    (B : Go mi d h0 (pc + 3) lv (v :: st) h1 pc2 lv2 st2 h2) : Go mi d h0 pc lv st1 h pc2 lv2 st2 h2 := go_callS As hM hm hd2 hd hl hs hn hst hstk B
theorem go_callS0 {idx n : Nat} (As : List Value) (hM : Mt mi2 d2 As h none h1) (hm : mj_M mi2 n) (hd2 : d2 + 1 ≤ d) (hd : decode mi.2.1 pc = .ok (.invokestatic idx, 3)) (hl : Cond.methodLink mi.1.cls idx mi2.1 ∈ mj_tbl) (hs : Cond.static mi2.1 ∈ mj_tbl) (hn : As.length = n) (hst : st.length ≤ 4) (hstk : As.reverse ++ st = st1)
    (B : Go mi d h0 (pc + 3) lv st h1 pc2 lv2 st2 h2) : Go mi d h0 pc lv st1 h pc2 lv2 st2 h2 := go_callS As hM hm hd2 hd hl hs hn hst hstk B
theorem go_callSN1 {idx n : Nat} {host : String} (As : List Value) (hM : Mt mi2 d2 As h (some v) h1) (hm : mj_M mi2 n) (hd2 : d2 + 1 ≤ d) (hd : decode mi.2.1 pc = .ok (.invokestatic idx, 3)) (hl : Cond.methodLinkNest mi.1.cls idx mi2.1 host ∈ mj_bad) (hs : Cond.static mi2.1 ∈ mj_tbl) (hn : As.length = n) (hst : st.length ≤ 4) (hstk : As.reverse ++ st = st1)
    (B : Go mi d h0 (pc + 3) lv (v :: st) h1 pc2 lv2 st2 h2) : Go mi d h0 pc lv st1 h pc2 lv2 st2 h2 := go_callSN As hM hm hd2 hd hl hs hn hst hstk B
theorem go_callSN0 {idx n : Nat} {host : String} (As : List Value) (hM : Mt mi2 d2 As h none h1) (hm : mj_M mi2 n) (hd2 : d2 + 1 ≤ d) (hd : decode mi.2.1 pc = .ok (.invokestatic idx, 3)) (hl : Cond.methodLinkNest mi.1.cls idx mi2.1 host ∈ mj_bad) (hs : Cond.static mi2.1 ∈ mj_tbl) (hn : As.length = n) (hst : st.length ≤ 4) (hstk : As.reverse ++ st = st1)
    (B : Go mi d h0 (pc + 3) lv st h1 pc2 lv2 st2 h2) : Go mi d h0 pc lv st1 h pc2 lv2 st2 h2 := go_callSN As hM hm hd2 hd hl hs hn hst hstk B
theorem go_callV1 {idx n ci : Nat} {o : Option Nat} {q : vw_C} (As : List Value) (hM : Mt mi2 d2 (va_rf o :: As) h (some v) h1) (hm : mj_M mi2 n) (hd2 : d2 + 1 ≤ d) (hd : decode mi.2.1 pc = .ok (.invokevirtual idx, 3)) (hg : cls h o = some ci) (hq : mj_cl[ci]? = some q) (hqc : q.1 = mi2.1.cls) (hl : Cond.methodLink mi.1.cls idx mi2.1 ∈ mj_tbl) (hi : Cond.instanceMethod mi2.1 ∈ mj_tbl) (hs : Cond.selects mi2.1.cls mi2.1 mi2.1 ∈ mj_tbl) (hn : As.length = n) (hst : st.length ≤ 4) (hstk : As.reverse ++ va_rf o :: st = st1)
    (B : Go mi d h0 (pc + 3) lv (v :: st) h1 pc2 lv2 st2 h2) : Go mi d h0 pc lv st1 h pc2 lv2 st2 h2 := go_callV As hM hm hd2 hd hg hq hqc hl hi hs hn hst hstk B
theorem go_callV0 {idx n ci : Nat} {o : Option Nat} {q : vw_C} (As : List Value) (hM : Mt mi2 d2 (va_rf o :: As) h none h1) (hm : mj_M mi2 n) (hd2 : d2 + 1 ≤ d) (hd : decode mi.2.1 pc = .ok (.invokevirtual idx, 3)) (hg : cls h o = some ci) (hq : mj_cl[ci]? = some q) (hqc : q.1 = mi2.1.cls) (hl : Cond.methodLink mi.1.cls idx mi2.1 ∈ mj_tbl) (hi : Cond.instanceMethod mi2.1 ∈ mj_tbl) (hs : Cond.selects mi2.1.cls mi2.1 mi2.1 ∈ mj_tbl) (hn : As.length = n) (hst : st.length ≤ 4) (hstk : As.reverse ++ va_rf o :: st = st1)
    (B : Go mi d h0 (pc + 3) lv st h1 pc2 lv2 st2 h2) : Go mi d h0 pc lv st1 h pc2 lv2 st2 h2 := go_callV As hM hm hd2 hd hg hq hqc hl hi hs hn hst hstk B
theorem go_callU1 {idx n ci : Nat} {o : Option Nat} {q : vw_C} {x : MethodName} {owner : String} (As : List Value) (hM : Mt mi2 d2 (va_rf o :: As) h (some v) h1) (hm : mj_M mi2 n) (hd2 : d2 + 1 ≤ d) (hd : decode mi.2.1 pc = .ok (.invokevirtual idx, 3)) (hg : cls h o = some ci) (hq : mj_cl[ci]? = some q) (hl : Cond.methodLink mi.1.cls idx x ∈ mj_tbl) (hsm : Cond.sameMethod x.cls owner x.name x.desc ∈ mj_tbl)
    (hde : (∃ (b0 : ByteArray) (m0 : Nat) (r0 : Option FieldType), Cond.instanceMethod ⟨owner, x.name, x.desc⟩ ∈ mj_tbl ∧ Cond.code ⟨owner, x.name, x.desc⟩ b0 m0 r0 ∈ mj_tbl) ∨ Cond.declares ⟨owner, x.name, x.desc⟩ ∈ mj_bad)
    (how : (owner ≠ "java/lang/invoke/MethodHandle" ∧ owner ≠ "java/lang/invoke/VarHandle") ∧ (parseMethodDescriptor x.desc).map (fun d => d.parameters.length) = some n)
    (hs : Cond.selects q.1 x mi2.1 ∈ mj_tbl) (hi : Cond.instanceMethod mi2.1 ∈ mj_tbl) (hn : As.length = n) (hst : st.length ≤ 4) (hstk : As.reverse ++ va_rf o :: st = st1)
    (B : Go mi d h0 (pc + 3) lv (v :: st) h1 pc2 lv2 st2 h2) : Go mi d h0 pc lv st1 h pc2 lv2 st2 h2 := go_callU As hM hm hd2 hd hg hq hl hsm hde how hs hi hn hst hstk B
/-- super.m(..), the named class has it itself -/
theorem go_callSUh1 {idx n ci : Nat} {o : Option Nat} (As : List Value) (hM : Mt mi2 d2 (va_rf o :: As) h (some v) h1) (hm : mj_M mi2 n) (hd2 : d2 + 1 ≤ d) (hd : decode mi.2.1 pc = .ok (.invokespecial idx, 3)) (hg : cls h o = some ci) (hq : ∃ q, mj_cl[ci]? = some q) (hl : Cond.methodLink mi.1.cls idx mi2.1 ∈ mj_tbl) (hsm : Cond.sameMethod mi2.1.cls mi2.1.cls mi2.1.name mi2.1.desc ∈ mj_tbl) (hsu : Cond.superclass mi.1.cls mi2.1.cls ∈ mj_tbl) (hi : Cond.instanceMethod mi2.1 ∈ mj_tbl) (hno : mi2.1.name ≠ "<init>") (hn : As.length = n) (hst : st.length ≤ 4) (hstk : As.reverse ++ va_rf o :: st = st1)
    (B : Go mi d h0 (pc + 3) lv (v :: st) h1 pc2 lv2 st2 h2) : Go mi d h0 pc lv st1 h pc2 lv2 st2 h2 := by
  obtain ⟨q, hq⟩ := hq
  exact go_callSU As hM hm hd2 hd hg hq hl hsm hsu hi hno hn hst hstk B
/-- super.m(..), the named class x.cls only inherits it -/
theorem go_callSUu1 {idx n ci : Nat} {o : Option Nat} {x : MethodName} (As : List Value) (hM : Mt mi2 d2 (va_rf o :: As) h (some v) h1) (hm : mj_M mi2 n) (hd2 : d2 + 1 ≤ d) (hd : decode mi.2.1 pc = .ok (.invokespecial idx, 3)) (hg : cls h o = some ci) (hq : ∃ q, mj_cl[ci]? = some q) (hl : Cond.methodLink mi.1.cls idx x ∈ mj_tbl) (hsm : Cond.sameMethod x.cls mi2.1.cls x.name x.desc ∈ mj_tbl) (hsu : Cond.superclass mi.1.cls x.cls ∈ mj_tbl) (hsu2 : Cond.superclass x.cls mi2.1.cls ∈ mj_tbl) (hi : Cond.instanceMethod mi2.1 ∈ mj_tbl) (hx : x.name ≠ "<init>" ∧ mi2.1 = ⟨mi2.1.cls, x.name, x.desc⟩) (hn : As.length = n) (hst : st.length ≤ 4) (hstk : As.reverse ++ va_rf o :: st = st1)
    (B : Go mi d h0 (pc + 3) lv (v :: st) h1 pc2 lv2 st2 h2) : Go mi d h0 pc lv st1 h pc2 lv2 st2 h2 := by
  subst hstk
  obtain ⟨q, hq⟩ := hq
  obtain ⟨fs, hob, hne⟩ := cls_spec hg
  obtain ⟨a, rfl, ha⟩ := mj_objS hob
  refine Go.call hM hd2 (fun G p e R s m args below meth c cells slots H locs ls hF hX g3 g4 g5 hR hlv => ?_) B
  have hts := hF.2.2.2.2.1
  have rm := mj_rm (hd2 := hd2) hm g3 g4
  obtain ⟨h3, hlt, hat⟩ := mj_obj_at hR ha hne
  obtain ⟨cellB, hcB, hoB, hclB⟩ := va_recv hX.1 (mj_P1 hat) (q0 := 0) hq rfl
  obtain ⟨hfc, kB, hkB, -⟩ := (hX.1.1 ci _ hq).2
  have hcc : G.D.1 ci = cellB.cls := Option.some.inj (hfc.symm.trans hclB)
  rw [hcc] at hkB
  have hini := hts _ hm.2.1
  have hK : Back G.l R p e below s args mi2.1 3 8 (PreOf R (h1.2.1 - h.2.1) (h1.2.2 - h.2.2) (mj_Pc G (va_rf (some a) :: As) h)) (PostOf (mj_Qc G (some v) h1) (h1.2.1 - h.2.1) (h1.2.2 - h.2.2) (fun q => G.base ≤ q)) :=
    back_of (bytes := mi2.2.1) (maxL := mi2.2.2.1) (ret := mi2.2.2.2) (hM.2.2 G) (mj_blind G _ h) rfl rfl rm.1 rm.2 (pay_in hts (mj_wsIn hm)) List.mem_cons_self (fun a' U hW => word_at hW (Or.inl (by first | rfl | simp [Cond.onTables, Cond.keeps, Cond.steady])) hini)
  obtain ⟨mk, methM, hnamed, hmethM, hstM, habM⟩ := Cond.instanceMethod_spec (hts _ hi)
  obtain ⟨methM', cM, hmethM', -, -, -, -, -, -, hsigM⟩ := Cond.code_spec hnamed (hts _ hm.1)
  cases hmethM.symm.trans hmethM'
  obtain ⟨ps, dk, kp, hps, hdk, hkp, hsuper, -, -, hnid⟩ := Cond.superclass_spec hF.2.2.2.1 (hts _ hsu)
  obtain ⟨ps2, dk2, kp2, hps2, hdk2, hkp2, hsuper2, -, -, -⟩ := Cond.superclass_spec hps (hts _ hsu2)
  have hname : s.methodNamed? ⟨mi2.1.cls, x.name, x.desc⟩ = some mk := by rw [← hx.2]; exact hnamed
  have hpm : ps2 = mk.cls := Option.some.inj (hps2.symm.trans (findClass_of_methodNamed hnamed))
  have hsub : s.vm.isSubclass ps mk.cls = true := by
    rw [← hpm]
    have hlt2 : ps < s.vm.classes.size := (Array.getElem?_eq_some_iff.mp hdk2).1
    unfold Vm.isSubclass
    obtain ⟨k, hk⟩ : ∃ k, s.vm.classes.size = k + 1 := Nat.exists_eq_succ_of_ne_zero (fun z => absurd (z ▸ hlt2) (Nat.not_lt_zero _))
    rw [hk]
    by_cases hpp : ps = ps2
    · simp [Vm.isSubclassAux, hpp]
    · cases k with
      | zero => simp [Vm.isSubclassAux, hdk2, hsuper2]
      | succ k => simp [Vm.isSubclassAux, hdk2, hsuper2]
  intro T hT X
  obtain ⟨vm₁, X₁, hstep₁⟩ := X.invokespecialUp hF.1 hF.2.2.2.1 (hts _ hl) (hts _ hsm) hname hmethM hstM habM hx.1 hdk hnid hps hsuper hsub (a := G.ad a) (cell := cellB) (by rw [hT]; exact hcB)
    (fun z hz => by rw [hz] at hoB; cases hoB) hkB (g := F0 m pc ls ((As.reverse ++ va_rf (some a) :: st).map (mj_v G.ad))) rfl (argsL := As.map (mj_v G.ad)) (rest := st.map (mj_v G.ad)) (by
      rw [List.length_map, hn]
      have h2 := hm.2.2.2.1
      have h3 : parseMethodDescriptor mi2.1.desc = some methM.sig := hsigM
      rw [h3] at h2
      exact (Option.some.inj h2).symm) (mj_rev As (va_rf (some a) :: st)) (by rw [hF.2.1]; exact hd)
  obtain ⟨v', ⟨U', l2, c2, s2⟩, X', ⟨g', mk', t, L, e1, e2, hq', h4, hL, h5, h6⟩, hsteps⟩ := hK m meth c ⟨T.setVm vm₁, locs, cells, slots⟩ { (F0 m pc ls ((As.reverse ++ va_rf (some a) :: st).map (mj_v G.ad))) with stack := st.map (mj_v G.ad) } (.invokespecial idx) mk (Value.ref (G.ad a) :: As.map (mj_v G.ad)).toArray X₁ rfl (by rw [hF.2.2.1]; exact hlv.1) (by rw [hF.2.1]; exact hd) (mj_rest hst) (X₁.named hnamed)
    ⟨g5.1, g5.2, mj_start hX hR (U := T.setVm vm₁) hT X₁.warmed (va_rf (some a) :: As)⟩
  dsimp only [Pt.U, Pt.locs, Pt.cells, Pt.slots] at X' e1 e2 h4 h5 h6
  subst h4; subst h5; subst h6
  exact ⟨v', (T.setVm vm₁).calling g' mk' (Value.ref (G.ad a) :: As.map (mj_v G.ad)).toArray, t, U', L, hT, X', hL, e1, e2, hq', fun target hh => hstep₁ _ (by rw [doInvoke_state]; exact hsteps.trans hh)⟩
/-- a static method, named through a class that inherits it -/
theorem go_callSUp0 {idx n : Nat} {x : MethodName} (As : List Value) (hM : Mt mi2 d2 As h none h1) (hm : mj_M mi2 n) (hd2 : d2 + 1 ≤ d) (hd : decode mi.2.1 pc = .ok (.invokestatic idx, 3)) (hl : Cond.methodLink mi.1.cls idx x ∈ mj_tbl) (hsm : Cond.sameMethod x.cls mi2.1.cls x.name x.desc ∈ mj_tbl) (hs : Cond.static mi2.1 ∈ mj_tbl) (hx : mi2.1.cls ≠ "java/lang/invoke/MethodHandle" ∧ mi2.1.cls ≠ "java/lang/invoke/VarHandle" ∧ mi2.1 = ⟨mi2.1.cls, x.name, x.desc⟩) (hn : As.length = n) (hst : st.length ≤ 4) (hstk : As.reverse ++ st = st1)
    (B : Go mi d h0 (pc + 3) lv st h1 pc2 lv2 st2 h2) : Go mi d h0 pc lv st1 h pc2 lv2 st2 h2 := by
  subst hstk
  refine Go.call hM hd2 (fun G p e R s m args below meth c cells slots H locs ls hF hX g3 g4 g5 hR hlv => ?_) B
  have hts := hF.2.2.2.2.1
  have rm := mj_rm (hd2 := hd2) hm g3 g4
  have hini := hts _ hm.2.1
  have hK : Back G.l R p e below s args mi2.1 3 8 (PreOf R (h1.2.1 - h.2.1) (h1.2.2 - h.2.2) (mj_Pc G As h)) (PostOf (mj_Qc G none h1) (h1.2.1 - h.2.1) (h1.2.2 - h.2.2) (fun q => G.base ≤ q)) :=
    back_of (bytes := mi2.2.1) (maxL := mi2.2.2.1) (ret := mi2.2.2.2) (hM.2.2 G) (mj_blind G _ h) rfl rfl rm.1 rm.2 (pay_in hts (mj_wsIn hm)) List.mem_cons_self (fun a' U hW => word_at hW (Or.inl (by first | rfl | simp [Cond.onTables, Cond.keeps, Cond.steady])) hini)
  obtain ⟨mk, hnamed⟩ := Cond.code_named (hts _ hm.1)
  obtain ⟨methM, cM, hmethM, -, -, -, -, -, -, hsigM⟩ := Cond.code_spec hnamed (hts _ hm.1)
  have hstatic : methM.isStatic = true := Cond.static_spec hnamed hmethM (hts _ hs)
  obtain ⟨kP, hkP, hnP⟩ := className_of_methodNamed hnamed
  have hinitP : kP.init = .initialized := Cond.initialized_spec (findClass_of_methodNamed hnamed) hkP hini
  have hname : s.methodNamed? ⟨mi2.1.cls, x.name, x.desc⟩ = some mk := by rw [← hx.2.2]; exact hnamed
  rw [mj_rev]
  intro T hT X
  have hstep : ∃ vm₁, Stand p G.l e R s m args below meth c (T.setVm vm₁) locs cells slots ∧
      ∀ target, (∀ acts, Steps p.tables e below (doInvoke e ((T.setVm vm₁).setTop { (F0 m pc ls ((As.map (mj_v G.ad)).reverse ++ st.map (mj_v G.ad))) with stack := st.map (mj_v G.ad) }) acts mk (As.map (mj_v G.ad)).toArray).1 target) → Steps p.tables e below (T.setTop (F0 m pc ls ((As.map (mj_v G.ad)).reverse ++ st.map (mj_v G.ad)))) target := by
    have hpl : e.platform.magicAccessors = ({} : Platform).magicAccessors := by rw [X.admits.platform]
    have hpv : e.platform.polymorphicOnlyByInvokevirtual = true := by rw [X.admits.platform]
    obtain ⟨cn, ck, r1, hcn, hck, hni, hf, hn1⟩ := Cond.sameMethod_found (hts _ hsm)
    cases hname.symm.trans hn1
    obtain ⟨ci, hlk, hright⟩ := Cond.methodLink_specUp hF.2.2.2.1 hcn hck hni hf (hts _ hl) e.platform hpl (by rw [X.admits.platform])
    have hE : s.MethodEntryUp e T.vm m.cls idx cn mk ci := State.methodEntryUp X.warmed hlk hright
    obtain ⟨dk, cfile, nt, mname, mdesc, ck', _, _, hdk, hcf, hcp, hnt, -, -, hck', -, hnopoly, -⟩ := hlk.here
    cases hck.symm.trans hck'
    have alike := hE.warmed.alike
    obtain ⟨dk₂, hdk₂, hed₂⟩ := alike.2.2 _ _ hdk
    obtain ⟨k₂, hk₂, he₂⟩ := alike.2.2 _ _ hkP
    obtain ⟨ck₂, hck₂, hec₂⟩ := alike.2.2 _ _ hck
    have hnone : (ck.methods.any fun y => y.name == mname && !y.isStatic && signaturePolymorphic ck y) = false := by simp [hnopoly]
    have hnone₂ : (ck₂.methods.any fun y => y.name == mname && !y.isStatic && signaturePolymorphic ck₂ y) = false := by rw [hec₂]; exact hnone
    have hcp' : cfile.constantPool[idx]? = some (if false then .interfaceMethodref ci nt else .methodref ci nt) := hcp
    refine ⟨T.vm.calledUp m.cls ci idx cn mk, X.noted hE.warmed, fun target hrest => ?_⟩
    have hd' : decode c.code (F0 m pc ls ((As.map (mj_v G.ad)).reverse ++ st.map (mj_v G.ad))).pc = .ok (.invokestatic idx, 3) := by rw [hF.2.1]; exact hd
    have hlen : (As.map (mj_v G.ad)).length = methM.sig.parameters.length := by
      rw [List.length_map, hn]
      have h2 := hm.2.2.2.1
      have h3 : parseMethodDescriptor mi2.1.desc = some methM.sig := hsigM
      rw [h3] at h2
      exact (Option.some.inj h2).symm
    jvm_step X.here [hF.1, hd', mj_askUp (e := e) (s := T) (s0 := s) (f := F0 m pc ls ((As.map (mj_v G.ad)).reverse ++ st.map (mj_v G.ad))) X.here.top hpv X.warmed hE hdk hcf hcp hnt hck hnone,
      invokestatic.wp_ready (e := e) (s := T.setVm (T.vm.calledUp m.cls ci idx cn mk)) (k := k₂) (meth := methM) (m := mk) (args := As.map (mj_v G.ad)) (rest := st.map (mj_v G.ad)) (f := F0 m pc ls ((As.map (mj_v G.ad)).reverse ++ st.map (mj_v G.ad)))
        X.here.top ⟨ci, mname, mdesc, false, cn, ck₂, memberRef_ask_via (e := e) hdk₂ (by rw [hed₂]; exact hcf) hcp' hnt, hE.classReady, hck₂, hnone₂⟩ hE.ready hk₂
        (by show (T.vm.calledUp m.cls ci idx cn mk).method? mk = some methM; rw [alike.method?]; exact hmethM)
        (by rw [he₂]; show signaturePolymorphic kP methM = false; simp [signaturePolymorphic, hnP, hx.1, hx.2.1]) hstatic (by rw [he₂]; exact hinitP) hlen rfl]
    exact fun acts => hrest _
  obtain ⟨vm₁, X₁, hstep₁⟩ := hstep
  obtain ⟨v', ⟨U', l2, c2, s2⟩, X', ⟨g', mk', t, L, e1, e2, hq', h4, hL, h5, h6⟩, hsteps⟩ := hK m meth c ⟨T.setVm vm₁, locs, cells, slots⟩ { (F0 m pc ls ((As.map (mj_v G.ad)).reverse ++ st.map (mj_v G.ad))) with stack := st.map (mj_v G.ad) } (.invokestatic idx) mk (As.map (mj_v G.ad)).toArray X₁ rfl (by rw [hF.2.2.1]; exact hlv.1) (by rw [hF.2.1]; exact hd) (mj_rest hst) (X₁.named hnamed)
    ⟨g5.1, g5.2, mj_start hX hR (U := T.setVm vm₁) hT X₁.warmed As⟩
  dsimp only [Pt.U, Pt.locs, Pt.cells, Pt.slots] at X' e1 e2 h4 h5 h6
  subst h4; subst h5; subst h6
  exact ⟨v', (T.setVm vm₁).calling g' mk' (As.map (mj_v G.ad)).toArray, t, U', L, hT, X', hL, e1, e2, hq', fun target hh => hstep₁ _ fun acts => by rw [doInvoke_state]; exact hsteps.trans hh⟩
theorem go_callI0 {idx n a : Nat} (As : List Value) (hM : Mt mi2 d2 (va_rf (some a) :: As) h none h1) (hm : mj_M mi2 n) (hret : mi2.2.2.2 = none) (hd2 : d2 + 1 ≤ d) (hd : decode mi.2.1 pc = .ok (.invokespecial idx, 3)) (hl : Cond.methodLink mi.1.cls idx mi2.1 ∈ mj_tbl) (hi : Cond.instanceMethod mi2.1 ∈ mj_tbl) (hno : mi2.1.name = "<init>") (hn : As.length = n) (hst : st.length ≤ 4) (hstk : As.reverse ++ va_rf (some a) :: st = st1)
    (B : Go mi d h0 (pc + 3) lv st h1 pc2 lv2 st2 h2) : Go mi d h0 pc lv st1 h pc2 lv2 st2 h2 := go_callI As hM hm hret hd2 hd hl hi hno hn hst hstk B
theorem go_callIo {idx n : Nat} {o : Option Nat} (ho : o ≠ none) (As : List Value) (hM : Mt mi2 d2 (va_rf o :: As) h none h1) (hm : mj_M mi2 n) (hret : mi2.2.2.2 = none) (hd2 : d2 + 1 ≤ d) (hd : decode mi.2.1 pc = .ok (.invokespecial idx, 3)) (hl : Cond.methodLink mi.1.cls idx mi2.1 ∈ mj_tbl) (hi : Cond.instanceMethod mi2.1 ∈ mj_tbl) (hno : mi2.1.name = "<init>") (hn : As.length = n) (hst : st.length ≤ 4) (hstk : As.reverse ++ va_rf o :: st = st1)
    (B : Go mi d h0 (pc + 3) lv st h1 pc2 lv2 st2 h2) : Go mi d h0 pc lv st1 h pc2 lv2 st2 h2 := by
  cases o with
  | none => exact absurd rfl ho
  | some a => exact go_callI As hM hm hret hd2 hd hl hi hno hn hst hstk B
end GO6
theorem mj_fit2 : ∀ c ∈ [2, 3, 4, 7, 8], mj_fits 2 c = true := by decide +kernel
theorem mj_fit3 : ∀ c ∈ [1], mj_fits 3 c = true := by decide +kernel
theorem w_arr0 : Cond.arrayClass (mj_aty 0) ∈ mj_tbl := mj_mem_tbl 97 (by decide +kernel) rfl
theorem w_arr1 : Cond.arrayClass (mj_aty 1) ∈ mj_tbl := mj_mem_tbl 1065 (by decide +kernel) rfl
theorem w_objI : Cond.instanceMethod objectInit ∈ mj_tbl := mj_mem_tbl 76 (by decide +kernel) rfl
theorem w_objC : Cond.code objectInit ⟨#[0xb1]⟩ 1 none ∈ mj_tbl := mj_mem_tbl 77 (by decide +kernel) rfl
theorem w_cpN : Cond.native arraycopyName ∈ mj_tbl := mj_mem_tbl 369 (by decide +kernel) rfl
theorem w_cpS : Cond.static arraycopyName ∈ mj_tbl := mj_mem_tbl 368 (by decide +kernel) rfl
theorem w_cpI : Cond.initialized "java/lang/System" ∈ mj_tbl := mj_mem_tbl 61 (by decide +kernel) rfl
theorem w_leS : Cond.static ⟨"WideTurn$Hand", "leave", "([II)V"⟩ ∈ mj_tbl := mj_mem_tbl 920 (by decide +kernel) rfl
