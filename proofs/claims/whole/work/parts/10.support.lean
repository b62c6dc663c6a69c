/-! ===== what the printed walks stand on ===== -/
abbrev q_0 : vw_C := (RX0, TX0, 8)
abbrev q_1 : vw_C := (RX1, TX1, 11)
abbrev q_2 : vw_C := (RX3, TX3, 3)
abbrev q_3 : vw_C := (RX4, TX4, 3)
abbrev q_4 : vw_C := (RX5, TX5, 3)
abbrev q_5 : vw_C := (RX6, TX6, 3)
abbrev q_6 : vw_C := (RX7, TX7, 14)
abbrev q_7 : vw_C := (RX8, TX8, 3)
abbrev q_8 : vw_C := (RX9, TX9, 3)
abbrev q_9 : vw_C := (RX10, TX10, 6)
abbrev q_10 : vw_C := (RX11, TX11, 10)
abbrev q_11 : vw_C := (RX12, TX12, 25)
/-- a new object's fields -/
def mj_new (c : Nat) : List Value := match mj_cl[c]? with
  | some q => (List.range q.2.2).map fun j => match parseFieldDescriptor (q.2.1 j).2.2.1 with
    | some ty => defaultValue ty
    | none => .null
  | none => []
def o_0 : List Value := [.null, .null, .null, .null, .null, .null, .int 0, .int 0]
def o_1 : List Value := [.int 0, .int 0, .int 0, .int 0, .int 0, .int 0, .int 0, .int 0, .int 0, .null, .null]
def o_2 : List Value := [.int 0, .int 0, .int 0]
def o_3 : List Value := [.int 0, .int 0, .int 0]
def o_4 : List Value := [.int 0, .int 0, .int 0]
def o_5 : List Value := [.null, .null, .null]
def o_6 : List Value := [.null, .null, .null, .null, .null, .null, .null, .null, .int 0, .int 0, .int 0, .int 0, .int 0, .int 0]
def o_7 : List Value := [.int 0, .int 0, .int 0]
def o_8 : List Value := [.int 0, .int 0, .int 0]
def o_9 : List Value := [.null, .int 0, .int 0, .int 0, .int 0, .int 0]
def o_10 : List Value := [.null, .null, .null, .null, .null, .null, .null, .null, .int 0, .int 0]
def o_11 : List Value := [.int 0, .null, .int 0, .int 0, .int 0, .int 0, .int 0, .int 0, .int 0, .int 0, .null, .null, .null, .int 0, .null, .null, .null, .null, .int 0, .null, .null, .null, .int 0, .null, .null]
theorem o_0_ok : (List.range q_0.2.2).map (fun j => (parseFieldDescriptor (q_0.2.1 j).2.2.1).map defaultValue) = o_0.map some := by decide +kernel
theorem o_1_ok : (List.range q_1.2.2).map (fun j => (parseFieldDescriptor (q_1.2.1 j).2.2.1).map defaultValue) = o_1.map some := by decide +kernel
theorem o_2_ok : (List.range q_2.2.2).map (fun j => (parseFieldDescriptor (q_2.2.1 j).2.2.1).map defaultValue) = o_2.map some := by decide +kernel
theorem o_3_ok : (List.range q_3.2.2).map (fun j => (parseFieldDescriptor (q_3.2.1 j).2.2.1).map defaultValue) = o_3.map some := by decide +kernel
theorem o_4_ok : (List.range q_4.2.2).map (fun j => (parseFieldDescriptor (q_4.2.1 j).2.2.1).map defaultValue) = o_4.map some := by decide +kernel
theorem o_5_ok : (List.range q_5.2.2).map (fun j => (parseFieldDescriptor (q_5.2.1 j).2.2.1).map defaultValue) = o_5.map some := by decide +kernel
theorem o_6_ok : (List.range q_6.2.2).map (fun j => (parseFieldDescriptor (q_6.2.1 j).2.2.1).map defaultValue) = o_6.map some := by decide +kernel
theorem o_7_ok : (List.range q_7.2.2).map (fun j => (parseFieldDescriptor (q_7.2.1 j).2.2.1).map defaultValue) = o_7.map some := by decide +kernel
theorem o_8_ok : (List.range q_8.2.2).map (fun j => (parseFieldDescriptor (q_8.2.1 j).2.2.1).map defaultValue) = o_8.map some := by decide +kernel
theorem o_9_ok : (List.range q_9.2.2).map (fun j => (parseFieldDescriptor (q_9.2.1 j).2.2.1).map defaultValue) = o_9.map some := by decide +kernel
theorem o_10_ok : (List.range q_10.2.2).map (fun j => (parseFieldDescriptor (q_10.2.1 j).2.2.1).map defaultValue) = o_10.map some := by decide +kernel
theorem o_11_ok : (List.range q_11.2.2).map (fun j => (parseFieldDescriptor (q_11.2.1 j).2.2.1).map defaultValue) = o_11.map some := by decide +kernel
def o_of (c : Nat) : List Value := match c with
  | 0 => o_0
  | 1 => o_1
  | 2 => o_2
  | 3 => o_3
  | 4 => o_4
  | 5 => o_5
  | 6 => o_6
  | 7 => o_7
  | 8 => o_8
  | 9 => o_9
  | 10 => o_10
  | _ => o_11
def newO (h : MH) (c : Nat) : Option MH := some (newo h c (o_of c))
def newA (h : MH) (t n : Nat) : Option MH := some (newa h t n)
def newQ (h : MH) (t n : Nat) : Option MH := some (newq h t n)
def mj_nz (y : Int32) : Option Unit := if y = 0 then none else some ()
def mj_nzl (y : Int64) : Option Unit := if y = 0 then none else some ()
theorem mj_nz_spec {y : Int32} {u : Unit} (e : mj_nz y = some u) : ¬ y = 0 := fun h => by unfold mj_nz at e; rw [if_pos h] at e; cases e
theorem mj_nzl_spec {y : Int64} {u : Unit} (e : mj_nzl y = some u) : ¬ y = 0 := fun h => by unfold mj_nzl at e; rw [if_pos h] at e; cases e
def mj_b01 (x : Int32) : Option Unit := if x &&& 1 = x then some () else none
theorem mj_b01_spec {x : Int32} {u : Unit} (e : mj_b01 x = some u) : x &&& 1 = x := by
  unfold mj_b01 at e
  by_cases h : x &&& 1 = x
  · exact h
  · rw [if_neg h] at e; cases e
def mj_hand (c : Nat) : Option Unit := if [2, 3, 4, 7, 8].contains c then some () else none
theorem mj_hand_spec {c : Nat} {u : Unit} (e : mj_hand c = some u) : ∃ q, mj_cl[c]? = some q := by
  unfold mj_hand at e
  by_cases h : [2, 3, 4, 7, 8].contains c = true
  · have := List.contains_iff_mem.mp h
    simp only [List.mem_cons, List.not_mem_nil, or_false] at this
    rcases this with rfl | rfl | rfl | rfl | rfl <;> exact ⟨_, rfl⟩
  · rw [if_neg h] at e; cases e
def mj_same (a b : Option Nat) : Option Unit := if a = b then some () else none
theorem mj_same_spec {a b : Option Nat} {u : Unit} (e : mj_same a b = some u) : a = b := by
  unfold mj_same at e
  by_cases h : a = b
  · exact h
  · rw [if_neg h] at e; cases e
theorem mj_some {o : Option Nat} {t : Nat} (e : o = some t) : o ≠ none := by rw [e]; exact fun z => by cases z
theorem mj_swn {x k : Int32} {v : Int} (h : ¬ x = k) (hk : k.toInt = v) : x.toInt ≠ v := fun z => h (Int32.toInt_inj.mp (z.trans hk.symm))
theorem mj_swd {pc tgt : Nat} {dflt lo hi : Int} {offs : Array Int} {x : Int32} (ks : List Int) (hx : ∀ k ∈ ks, x.toInt ≠ k) (hall : ((List.range offs.size).all (fun j => offs.getD j 0 == dflt || ks.contains (lo + j)) && decide (hi - lo < offs.size)) = true) (ht : (pc : Int) + dflt = (tgt : Int)) : (pc : Int) + mj_sw dflt lo hi offs x = (tgt : Int) := by
  rw [Bool.and_eq_true, decide_eq_true_eq] at hall
  unfold mj_sw
  by_cases h : x.toInt < lo ∨ hi < x.toInt
  · rw [if_pos h]; exact ht
  · rw [if_neg h]
    have hj : (x.toInt - lo).toNat < offs.size := by omega
    have h1 := List.all_eq_true.mp hall.1 _ (List.mem_range.mpr hj)
    rw [Bool.or_eq_true] at h1
    rcases h1 with h1 | h1
    · rw [eq_of_beq h1]; exact ht
    · have h2 := List.contains_iff_mem.mp h1
      exact absurd (by omega) (hx _ h2)
theorem mj_lwo : ∀ (ps : List (Int × Int)) (dflt v : Int), (∀ k ∈ ps.map Prod.fst, v ≠ k) → Op.lookupswitch.offset ps dflt v = dflt
  | [], _, _, _ => rfl
  | (a, o) :: r, dflt, v, h => by
    rw [Op.lookupswitch.offset_cons, if_neg]
    · exact mj_lwo r dflt v (fun k hk => h k (List.mem_cons_of_mem _ hk))
    · exact fun z => h a List.mem_cons_self z.symm
theorem mj_lwd {pc tgt : Nat} {dflt : Int} {ps : Array (Int × Int)} {x : Int32} (hx : ∀ k ∈ ps.toList.map Prod.fst, x.toInt ≠ k) (ht : (pc : Int) + dflt = (tgt : Int)) : (pc : Int) + Op.lookupswitch.offset ps.toList dflt x.toInt = (tgt : Int) := by
  rw [mj_lwo _ _ _ hx]
  exact ht
section GO6
variable {mi mi2 : MI} {d d2 : Nat} {h0 : MH} {pc pc2 : Nat} {lv lv2 : List (Nat × Value)} {st st1 st2 : List Value} {h h1 h2 : MH} {v : Value}
theorem go_newO {idx ci : Nat} {q : vw_C} (hd : decode mi.2.1 pc = .ok (.new idx, 3)) (hcl : mj_cl[ci]? = some q) (hfs : (List.range q.2.2).map (fun j => (parseFieldDescriptor (q.2.1 j).2.2.1).map defaultValue) = (o_of ci).map some) (htv : ∀ ad, (o_of ci).map (mj_v ad) = o_of ci) (hw1 : Cond.classLink mi.1.cls idx q.1 ∈ mj_tbl) (hw2 : Cond.instantiable q.1 q.2.2 ∈ mj_tbl) (hw3 : Cond.initialized q.1 ∈ mj_tbl) (e : newO h ci = some h1) (B : Go mi d h0 (pc + 3) lv (va_rf (some h.2.1) :: st) h1 pc2 lv2 st2 h2) : Go mi d h0 pc lv st h pc2 lv2 st2 h2 := by
  cases e
  exact go_new hd hcl hfs htv hw1 hw2 hw3 B
theorem go_newA {atype : ArrayType} {t N : Nat} {n : Int32} (ht : t < 2) (hty : newarray.typeOf atype = mj_aty t) (hd : decode mi.2.1 pc = .ok (.newarray atype, 2)) (hw : Cond.arrayClass (mj_aty t) ∈ mj_tbl) (hn : ¬ n < 0) (hN : n.toNatClampNeg = N) (hb : N ≤ 100000) (e : newA h t N = some h1) (B : Go mi d h0 (pc + 2) lv (va_rf (some h.2.1) :: st) h1 pc2 lv2 st2 h2) : Go mi d h0 pc lv (.int n :: st) h pc2 lv2 st2 h2 := by
  cases e
  exact go_newa ht hty hd hw hn hN hb B
theorem go_newQ {idx t N : Nat} {C : String} {n : Int32} (ht : t = 2 ∨ t = 3) (hty : mj_aty t = .object C) (hd : decode mi.2.1 pc = .ok (.anewarray idx, 3)) (hw : Cond.classLink mi.1.cls idx C ∈ mj_tbl) (hw2 : Cond.arrayOver (.object C) ∈ mj_bad) (hn : ¬ n < 0) (hN : n.toNatClampNeg = N) (hb : N ≤ 100000) (e : newQ h t N = some h1) (B : Go mi d h0 (pc + 3) lv (va_rf (some h.2.1) :: st) h1 pc2 lv2 st2 h2) : Go mi d h0 pc lv (.int n :: st) h pc2 lv2 st2 h2 := by
  cases e
  exact go_newq ht hty hd hw hw2 hn hN hb B
theorem go_instC {idx : Nat} {o : Option Nat} {C : String} {c : Nat} {b : Bool} (hd : decode mi.2.1 pc = .ok (.instanceof idx, 3)) (hw : Cond.classLink mi.1.cls idx C ∈ mj_tbl) (hg : cls h o = some c) (hb : mj_is c C = some b) (B : Go mi d h0 (pc + 3) lv (.int (if b then 1 else 0) :: st) h pc2 lv2 st2 h2) : Go mi d h0 pc lv (va_rf o :: st) h pc2 lv2 st2 h2 := by
  obtain ⟨fs, h1, h2⟩ := cls_spec hg
  exact go_inst hd hw h1 h2 hb B
theorem go_cpyS {idx : Nat} {o o2 : Option Nat} {sp dp n : Int32} (ho : o = o2) (hd1 : 1 ≤ d) (hst : (st.map fun v => v.category).sum ≤ 8) (hd : decode mi.2.1 pc = .ok (.invokestatic idx, 3)) (hw1 : Cond.methodLink mi.1.cls idx arraycopyName ∈ mj_tbl) (hw2 : Cond.native arraycopyName ∈ mj_tbl) (hw3 : Cond.static arraycopyName ∈ mj_tbl) (hw4 : Cond.initialized "java/lang/System" ∈ mj_tbl) (hg : cpy h o sp dp n = some h1) (B : Go mi d h0 (pc + 3) lv st h1 pc2 lv2 st2 h2) : Go mi d h0 pc lv (.int n :: .int dp :: va_rf o2 :: .int sp :: va_rf o :: st) h pc2 lv2 st2 h2 := by
  subst ho
  exact go_cpy hd1 hst hd hw1 hw2 hw3 hw4 hg B
theorem go_callS1 {idx n : Nat} (As : List Value) (hM : Mt mi2 d2 As h (some v) h1) (hm : mj_M mi2 n) (hd2 : d2 + 1 ≤ d) (hd : decode mi.2.1 pc = .ok (.invokestatic idx, 3)) (hl : Cond.methodLink mi.1.cls idx mi2.1 ∈ mj_tbl) (hs : Cond.static mi2.1 ∈ mj_tbl) (hn : As.length = n) (hst : st.length ≤ 4) (hstk : As.reverse ++ st = st1)
    (B : Go mi d h0 (pc + 3) lv (v :: st) h1 pc2 lv2 st2 h2) : Go mi d h0 pc lv st1 h pc2 lv2 st2 h2 := go_callS As hM hm hd2 hd hl hs hn hst hstk B
theorem go_callS0 {idx n : Nat} (As : List Value) (hM : Mt mi2 d2 As h none h1) (hm : mj_M mi2 n) (hd2 : d2 + 1 ≤ d) (hd : decode mi.2.1 pc = .ok (.invokestatic idx, 3)) (hl : Cond.methodLink mi.1.cls idx mi2.1 ∈ mj_tbl) (hs : Cond.static mi2.1 ∈ mj_tbl) (hn : As.length = n) (hst : st.length ≤ 4) (hstk : As.reverse ++ st = st1)
    (B : Go mi d h0 (pc + 3) lv st h1 pc2 lv2 st2 h2) : Go mi d h0 pc lv st1 h pc2 lv2 st2 h2 := go_callS As hM hm hd2 hd hl hs hn hst hstk B
theorem go_callSN1 {idx n : Nat} {host : String} (As : List Value) (hM : Mt mi2 d2 As h (some v) h1) (hm : mj_M mi2 n) (hd2 : d2 + 1 ≤ d) (hd : decode mi.2.1 pc = .ok (.invokestatic idx, 3)) (hl : Cond.methodLinkNest mi.1.cls idx mi2.1 host ∈ mj_bad) (hs : Cond.static mi2.1 ∈ mj_tbl) (hn : As.length = n) (hst : st.length ≤ 4) (hstk : As.reverse ++ st = st1)
    (B : Go mi d h0 (pc + 3) lv (v :: st) h1 pc2 lv2 st2 h2) : Go mi d h0 pc lv st1 h pc2 lv2 st2 h2 := go_callSN As hM hm hd2 hd hl hs hn hst hstk B
theorem go_callSN0 {idx n : Nat} {host : String} (As : List Value) (hM : Mt mi2 d2 As h none h1) (hm : mj_M mi2 n) (hd2 : d2 + 1 ≤ d) (hd : decode mi.2.1 pc = .ok (.invokestatic idx, 3)) (hl : Cond.methodLinkNest mi.1.cls idx mi2.1 host ∈ mj_bad) (hs : Cond.static mi2.1 ∈ mj_tbl) (hn : As.length = n) (hst : st.length ≤ 4) (hstk : As.reverse ++ st = st1)
    (B : Go mi d h0 (pc + 3) lv st h1 pc2 lv2 st2 h2) : Go mi d h0 pc lv st1 h pc2 lv2 st2 h2 := go_callSN As hM hm hd2 hd hl hs hn hst hstk B
theorem go_callV1 {idx n ci : Nat} {o : Option Nat} {q : vw_C} (As : List Value) (hM : Mt mi2 d2 (va_rf o :: As) h (some v) h1) (hm : mj_M mi2 n) (hd2 : d2 + 1 ≤ d) (hd : decode mi.2.1 pc = .ok (.invokevirtual idx, 3)) (hg : cls h o = some ci) (hq : mj_cl[ci]? = some q) (hqc : q.1 = mi2.1.cls) (hl : Cond.methodLink mi.1.cls idx mi2.1 ∈ mj_tbl) (hi : Cond.instanceMethod mi2.1 ∈ mj_tbl) (hs : Cond.selects mi2.1.cls mi2.1 mi2.1 ∈ mj_tbl) (hn : As.length = n) (hst : st.length ≤ 4) (hstk : As.reverse ++ va_rf o :: st = st1)
    (B : Go mi d h0 (pc + 3) lv (v :: st) h1 pc2 lv2 st2 h2) : Go mi d h0 pc lv st1 h pc2 lv2 st2 h2 := go_callV As hM hm hd2 hd hg hq hqc hl hi hs hn hst hstk B
theorem go_callV0 {idx n ci : Nat} {o : Option Nat} {q : vw_C} (As : List Value) (hM : Mt mi2 d2 (va_rf o :: As) h none h1) (hm : mj_M mi2 n) (hd2 : d2 + 1 ≤ d) (hd : decode mi.2.1 pc = .ok (.invokevirtual idx, 3)) (hg : cls h o = some ci) (hq : mj_cl[ci]? = some q) (hqc : q.1 = mi2.1.cls) (hl : Cond.methodLink mi.1.cls idx mi2.1 ∈ mj_tbl) (hi : Cond.instanceMethod mi2.1 ∈ mj_tbl) (hs : Cond.selects mi2.1.cls mi2.1 mi2.1 ∈ mj_tbl) (hn : As.length = n) (hst : st.length ≤ 4) (hstk : As.reverse ++ va_rf o :: st = st1)
    (B : Go mi d h0 (pc + 3) lv st h1 pc2 lv2 st2 h2) : Go mi d h0 pc lv st1 h pc2 lv2 st2 h2 := go_callV As hM hm hd2 hd hg hq hqc hl hi hs hn hst hstk B
theorem go_callU1 {idx n ci : Nat} {o : Option Nat} {q : vw_C} {x : MethodName} {owner : String} (As : List Value) (hM : Mt mi2 d2 (va_rf o :: As) h (some v) h1) (hm : mj_M mi2 n) (hd2 : d2 + 1 ≤ d) (hd : decode mi.2.1 pc = .ok (.invokevirtual idx, 3)) (hg : cls h o = some ci) (hq : mj_cl[ci]? = some q) (hl : Cond.methodLink mi.1.cls idx x ∈ mj_tbl) (hsm : Cond.sameMethod x.cls owner x.name x.desc ∈ mj_tbl)
    (hde : (∃ (b0 : ByteArray) (m0 : Nat) (r0 : Option FieldType), Cond.instanceMethod ⟨owner, x.name, x.desc⟩ ∈ mj_tbl ∧ Cond.code ⟨owner, x.name, x.desc⟩ b0 m0 r0 ∈ mj_tbl) ∨ Cond.declares ⟨owner, x.name, x.desc⟩ ∈ mj_bad)
    (how : (owner ≠ "java/lang/invoke/MethodHandle" ∧ owner ≠ "java/lang/invoke/VarHandle") ∧ (parseMethodDescriptor x.desc).map (fun d => d.parameters.length) = some n)
    (hs : Cond.selects q.1 x mi2.1 ∈ mj_tbl) (hi : Cond.instanceMethod mi2.1 ∈ mj_tbl) (hn : As.length = n) (hst : st.length ≤ 4) (hstk : As.reverse ++ va_rf o :: st = st1)
    (B : Go mi d h0 (pc + 3) lv (v :: st) h1 pc2 lv2 st2 h2) : Go mi d h0 pc lv st1 h pc2 lv2 st2 h2 := go_callU As hM hm hd2 hd hg hq hl hsm hde how hs hi hn hst hstk B
/-- super.m(..), the named class has it itself -/
theorem go_callSUh1 {idx n ci : Nat} {o : Option Nat} (As : List Value) (hM : Mt mi2 d2 (va_rf o :: As) h (some v) h1) (hm : mj_M mi2 n) (hd2 : d2 + 1 ≤ d) (hd : decode mi.2.1 pc = .ok (.invokespecial idx, 3)) (hg : cls h o = some ci) (hq : ∃ q, mj_cl[ci]? = some q) (hl : Cond.methodLink mi.1.cls idx mi2.1 ∈ mj_tbl) (hsm : Cond.sameMethod mi2.1.cls mi2.1.cls mi2.1.name mi2.1.desc ∈ mj_tbl) (hsu : Cond.superclass mi.1.cls mi2.1.cls ∈ mj_tbl) (hi : Cond.instanceMethod mi2.1 ∈ mj_tbl) (hno : mi2.1.name ≠ "<init>") (hn : As.length = n) (hst : st.length ≤ 4) (hstk : As.reverse ++ va_rf o :: st = st1)
    (B : Go mi d h0 (pc + 3) lv (v :: st) h1 pc2 lv2 st2 h2) : Go mi d h0 pc lv st1 h pc2 lv2 st2 h2 := by
  obtain ⟨q, hq⟩ := hq
  exact go_callSU As hM hm hd2 hd hg hq hl hsm hsu hi hno hn hst hstk B
/-- super.m(..), the named class x.cls only inherits it -/
theorem go_callSUu1 {idx n ci : Nat} {o : Option Nat} {x : MethodName} (As : List Value) (hM : Mt mi2 d2 (va_rf o :: As) h (some v) h1) (hm : mj_M mi2 n) (hd2 : d2 + 1 ≤ d) (hd : decode mi.2.1 pc = .ok (.invokespecial idx, 3)) (hg : cls h o = some ci) (hq : ∃ q, mj_cl[ci]? = some q) (hl : Cond.methodLink mi.1.cls idx x ∈ mj_tbl) (hsm : Cond.sameMethod x.cls mi2.1.cls x.name x.desc ∈ mj_tbl) (hsu : Cond.superclass mi.1.cls x.cls ∈ mj_tbl) (hsu2 : Cond.superclass x.cls mi2.1.cls ∈ mj_tbl) (hi : Cond.instanceMethod mi2.1 ∈ mj_tbl) (hx : x.name ≠ "<init>" ∧ mi2.1 = ⟨mi2.1.cls, x.name, x.desc⟩) (hn : As.length = n) (hst : st.length ≤ 4) (hstk : As.reverse ++ va_rf o :: st = st1)
    (B : Go mi d h0 (pc + 3) lv (v :: st) h1 pc2 lv2 st2 h2) : Go mi d h0 pc lv st1 h pc2 lv2 st2 h2 := by
  sorry
/-- a static method, named through a class that inherits it -/
theorem go_callSUp0 {idx n : Nat} {x : MethodName} (As : List Value) (hM : Mt mi2 d2 As h none h1) (hm : mj_M mi2 n) (hd2 : d2 + 1 ≤ d) (hd : decode mi.2.1 pc = .ok (.invokestatic idx, 3)) (hl : Cond.methodLink mi.1.cls idx x ∈ mj_tbl) (hsm : Cond.sameMethod x.cls mi2.1.cls x.name x.desc ∈ mj_tbl) (hs : Cond.static mi2.1 ∈ mj_tbl) (hx : mi2.1.cls ≠ "java/lang/invoke/MethodHandle" ∧ mi2.1.cls ≠ "java/lang/invoke/VarHandle" ∧ mi2.1 = ⟨mi2.1.cls, x.name, x.desc⟩) (hn : As.length = n) (hst : st.length ≤ 4) (hstk : As.reverse ++ st = st1)
    (B : Go mi d h0 (pc + 3) lv st h1 pc2 lv2 st2 h2) : Go mi d h0 pc lv st1 h pc2 lv2 st2 h2 := by
  sorry
theorem go_callI0 {idx n a : Nat} (As : List Value) (hM : Mt mi2 d2 (va_rf (some a) :: As) h none h1) (hm : mj_M mi2 n) (hret : mi2.2.2.2 = none) (hd2 : d2 + 1 ≤ d) (hd : decode mi.2.1 pc = .ok (.invokespecial idx, 3)) (hl : Cond.methodLink mi.1.cls idx mi2.1 ∈ mj_tbl) (hi : Cond.instanceMethod mi2.1 ∈ mj_tbl) (hno : mi2.1.name = "<init>") (hn : As.length = n) (hst : st.length ≤ 4) (hstk : As.reverse ++ va_rf (some a) :: st = st1)
    (B : Go mi d h0 (pc + 3) lv st h1 pc2 lv2 st2 h2) : Go mi d h0 pc lv st1 h pc2 lv2 st2 h2 := go_callI As hM hm hret hd2 hd hl hi hno hn hst hstk B
theorem go_callIo {idx n : Nat} {o : Option Nat} (ho : o ≠ none) (As : List Value) (hM : Mt mi2 d2 (va_rf o :: As) h none h1) (hm : mj_M mi2 n) (hret : mi2.2.2.2 = none) (hd2 : d2 + 1 ≤ d) (hd : decode mi.2.1 pc = .ok (.invokespecial idx, 3)) (hl : Cond.methodLink mi.1.cls idx mi2.1 ∈ mj_tbl) (hi : Cond.instanceMethod mi2.1 ∈ mj_tbl) (hno : mi2.1.name = "<init>") (hn : As.length = n) (hst : st.length ≤ 4) (hstk : As.reverse ++ va_rf o :: st = st1)
    (B : Go mi d h0 (pc + 3) lv st h1 pc2 lv2 st2 h2) : Go mi d h0 pc lv st1 h pc2 lv2 st2 h2 := by
  cases o with
  | none => exact absurd rfl ho
  | some a => exact go_callI As hM hm hret hd2 hd hl hi hno hn hst hstk B
end GO6
theorem mj_fit2 : ∀ c ∈ [2, 3, 4, 7, 8], mj_fits 2 c = true := by decide +kernel
theorem mj_fit3 : ∀ c ∈ [1], mj_fits 3 c = true := by decide +kernel
theorem w_arr0 : Cond.arrayClass (mj_aty 0) ∈ mj_tbl := mj_mem_tbl 97 (by decide +kernel) rfl
theorem w_arr1 : Cond.arrayClass (mj_aty 1) ∈ mj_tbl := mj_mem_tbl 1065 (by decide +kernel) rfl
theorem w_objI : Cond.instanceMethod objectInit ∈ mj_tbl := mj_mem_tbl 76 (by decide +kernel) rfl
theorem w_objC : Cond.code objectInit ⟨#[0xb1]⟩ 1 none ∈ mj_tbl := mj_mem_tbl 77 (by decide +kernel) rfl
theorem w_cpN : Cond.native arraycopyName ∈ mj_tbl := mj_mem_tbl 369 (by decide +kernel) rfl
theorem w_cpS : Cond.static arraycopyName ∈ mj_tbl := mj_mem_tbl 368 (by decide +kernel) rfl
theorem w_cpI : Cond.initialized "java/lang/System" ∈ mj_tbl := mj_mem_tbl 61 (by decide +kernel) rfl
theorem w_leS : Cond.static ⟨"WideTurn$Hand", "leave", "([II)V"⟩ ∈ mj_tbl := mj_mem_tbl 920 (by decide +kernel) rfl
