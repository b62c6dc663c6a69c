/-! ===== an instruction, a rule: those that leave the heap alone ===== -/
section GO1
variable {mi : MI} {d : Nat} {h0 : MH} {pc pc2 : Nat} {lv lv2 : List (Nat × Value)} {st st2 : List Value} {h h2 : MH}
theorem mj_vrf (ad : Nat → Nat) (o : Option Nat) : mj_v ad (va_rf o) = va_rf (o.map ad) := by cases o <;> rfl
theorem go_iconst {n : Int} {v : Int32} (hd : decode mi.2.1 pc = .ok (.iconst n, 1)) (hv : Int32.ofInt n = v) (B : Go mi d h0 (pc + 1) lv (.int v :: st) h pc2 lv2 st2 h2) : Go mi d h0 pc lv st h pc2 lv2 st2 h2 :=
  Go.one (fun G p e R s m args below meth c Q cells slots H locs ls hF hX g3 g4 hR hl K => lv_iconst hF.1 hF.2.1 hd hv (K ls hl)) B
theorem go_bipush {n : Int} {v : Int32} (hd : decode mi.2.1 pc = .ok (.bipush n, 2)) (hv : (Int8.ofInt n).toInt32 = v) (B : Go mi d h0 (pc + 2) lv (.int v :: st) h pc2 lv2 st2 h2) : Go mi d h0 pc lv st h pc2 lv2 st2 h2 :=
  Go.one (fun G p e R s m args below meth c Q cells slots H locs ls hF hX g3 g4 hR hl K => lv_bipush hF.1 hF.2.1 hd hv (K ls hl)) B
theorem go_sipush {n : Int} {v : Int32} (hd : decode mi.2.1 pc = .ok (.sipush n, 3)) (hv : (Int16.ofInt n).toInt32 = v) (B : Go mi d h0 (pc + 3) lv (.int v :: st) h pc2 lv2 st2 h2) : Go mi d h0 pc lv st h pc2 lv2 st2 h2 :=
  Go.one (fun G p e R s m args below meth c Q cells slots H locs ls hF hX g3 g4 hR hl K => lv_sipush hF.1 hF.2.1 hd hv (K ls hl)) B
theorem go_lconst {n : Fin 2} {v : Int64} (hd : decode mi.2.1 pc = .ok (.lconst n, 1)) (hv : Int64.ofNat (n : Nat) = v) (B : Go mi d h0 (pc + 1) lv (.long v :: st) h pc2 lv2 st2 h2) : Go mi d h0 pc lv st h pc2 lv2 st2 h2 :=
  Go.one (fun G p e R s m args below meth c Q cells slots H locs ls hF hX g3 g4 hR hl K => lv_lconst hF.1 hF.2.1 hd hv (K ls hl)) B
theorem go_null (hd : decode mi.2.1 pc = .ok (.aconst_null, 1)) (B : Go mi d h0 (pc + 1) lv (va_rf none :: st) h pc2 lv2 st2 h2) : Go mi d h0 pc lv st h pc2 lv2 st2 h2 :=
  Go.one (fun G p e R s m args below meth c Q cells slots H locs ls hF hX g3 g4 hR hl K => lv_null hF.1 hF.2.1 hd (K ls hl)) B
theorem go_ldc {idx : Nat} {v : Int32} (hd : decode mi.2.1 pc = .ok (.ldc idx, 2)) (hc : Cond.constant mi.1.cls idx v ∈ mj_tbl) (B : Go mi d h0 (pc + 2) lv (.int v :: st) h pc2 lv2 st2 h2) : Go mi d h0 pc lv st h pc2 lv2 st2 h2 :=
  Go.one (fun G p e R s m args below meth c Q cells slots H locs ls hF hX g3 g4 hR hl K => lv_ldc hF.1 hF.2.1 hF.2.2.2.1 (hF.2.2.2.2.1 _ hc) hd (K ls hl)) B
theorem go_ldcw {idx : Nat} {v : Int32} (hd : decode mi.2.1 pc = .ok (.ldc_w idx, 3)) (hc : Cond.constant mi.1.cls idx v ∈ mj_tbl) (B : Go mi d h0 (pc + 3) lv (.int v :: st) h pc2 lv2 st2 h2) : Go mi d h0 pc lv st h pc2 lv2 st2 h2 :=
  Go.one (fun G p e R s m args below meth c Q cells slots H locs ls hF hX g3 g4 hR hl K => lv_ldcw hF.1 hF.2.1 hF.2.2.2.1 (hF.2.2.2.2.1 _ hc) hd (K ls hl)) B
theorem go_ldc2 {idx : Nat} {v : Int64} (hd : decode mi.2.1 pc = .ok (.ldc2_w idx, 3)) (hc : Cond.constantLong mi.1.cls idx v ∈ mj_tbl) (B : Go mi d h0 (pc + 3) lv (.long v :: st) h pc2 lv2 st2 h2) : Go mi d h0 pc lv st h pc2 lv2 st2 h2 :=
  Go.one (fun G p e R s m args below meth c Q cells slots H locs ls hF hX g3 g4 hR hl K => lv_ldc2 hF.1 hF.2.1 hF.2.2.2.1 (hF.2.2.2.2.1 _ hc) hd (K ls hl)) B
theorem go_iload_n {k : Fin 4} {x : Int32} (q : Nat) (hd : decode mi.2.1 pc = .ok (.iload_n k, 1)) (hv : lv[q]? = some ((k : Nat), .int x)) (B : Go mi d h0 (pc + 1) lv (.int x :: st) h pc2 lv2 st2 h2) : Go mi d h0 pc lv st h pc2 lv2 st2 h2 :=
  Go.one (fun G p e R s m args below meth c Q cells slots H locs ls hF hX g3 g4 hR hl K => lv_iload_n hF.1 hF.2.1 hd rfl (mj_lat hl hv) (K ls hl)) B
theorem go_iload {i : Nat} {x : Int32} (q : Nat) (hd : decode mi.2.1 pc = .ok (.iload i, 2)) (hv : lv[q]? = some (i, .int x)) (B : Go mi d h0 (pc + 2) lv (.int x :: st) h pc2 lv2 st2 h2) : Go mi d h0 pc lv st h pc2 lv2 st2 h2 :=
  Go.one (fun G p e R s m args below meth c Q cells slots H locs ls hF hX g3 g4 hR hl K => lv_iload hF.1 hF.2.1 hd (mj_lat hl hv) (K ls hl)) B
theorem go_lload_n {k : Fin 4} {x : Int64} (q : Nat) (hd : decode mi.2.1 pc = .ok (.lload_n k, 1)) (hv : lv[q]? = some ((k : Nat), .long x)) (B : Go mi d h0 (pc + 1) lv (.long x :: st) h pc2 lv2 st2 h2) : Go mi d h0 pc lv st h pc2 lv2 st2 h2 :=
  Go.one (fun G p e R s m args below meth c Q cells slots H locs ls hF hX g3 g4 hR hl K => lv_lload_n hF.1 hF.2.1 hd rfl (mj_lat hl hv) (K ls hl)) B
theorem go_lload {i : Nat} {x : Int64} (q : Nat) (hd : decode mi.2.1 pc = .ok (.lload i, 2)) (hv : lv[q]? = some (i, .long x)) (B : Go mi d h0 (pc + 2) lv (.long x :: st) h pc2 lv2 st2 h2) : Go mi d h0 pc lv st h pc2 lv2 st2 h2 :=
  Go.one (fun G p e R s m args below meth c Q cells slots H locs ls hF hX g3 g4 hR hl K => lv_lload hF.1 hF.2.1 hd (mj_lat hl hv) (K ls hl)) B
theorem go_aload_n {k : Fin 4} {o : Option Nat} (q : Nat) (hd : decode mi.2.1 pc = .ok (.aload_n k, 1)) (hv : lv[q]? = some ((k : Nat), va_rf o)) (B : Go mi d h0 (pc + 1) lv (va_rf o :: st) h pc2 lv2 st2 h2) : Go mi d h0 pc lv st h pc2 lv2 st2 h2 :=
  Go.one (fun G p e R s m args below meth c Q cells slots H locs ls hF hX g3 g4 hR hl K => by
    cases o with
    | none => exact lv_aload_nN hF.1 hF.2.1 hd rfl (mj_lat hl hv) (K ls hl)
    | some a => exact lv_aload_n hF.1 hF.2.1 hd rfl (mj_lat hl hv) (K ls hl)) B
theorem go_aload {i : Nat} {o : Option Nat} (q : Nat) (hd : decode mi.2.1 pc = .ok (.aload i, 2)) (hv : lv[q]? = some (i, va_rf o)) (B : Go mi d h0 (pc + 2) lv (va_rf o :: st) h pc2 lv2 st2 h2) : Go mi d h0 pc lv st h pc2 lv2 st2 h2 :=
  Go.one (fun G p e R s m args below meth c Q cells slots H locs ls hF hX g3 g4 hR hl K => by
    cases o with
    | none => exact lv_aloadN hF.1 hF.2.1 hd (mj_lat hl hv) (K ls hl)
    | some a => exact lv_aload hF.1 hF.2.1 hd (mj_lat hl hv) (K ls hl)) B
theorem go_istore_n {k : Fin 4} {x : Int32} (hd : decode mi.2.1 pc = .ok (.istore_n k, 1)) (hn : (k : Nat) < mi.2.2.1) {lv1 : List (Nat × Value)} (hs : mj_s1 (k : Nat) (.int x) lv = lv1) (B : Go mi d h0 (pc + 1) lv1 st h pc2 lv2 st2 h2) : Go mi d h0 pc lv ((.int x) :: st) h pc2 lv2 st2 h2 := by
  subst hs
  exact Go.one (fun G p e R s m args below meth c Q cells slots H locs ls hF hX g3 g4 hR hl K => lv_istore_n hF.1 hF.2.1 hd rfl hl hn (mj_l1 G.ad (k : Nat) (.int x) lv).symm (fun ls1 h1 => K ls1 h1)) B
theorem go_istore {i : Nat} {x : Int32} (hd : decode mi.2.1 pc = .ok (.istore i, 2)) (hn : i < mi.2.2.1) {lv1 : List (Nat × Value)} (hs : mj_s1 i (.int x) lv = lv1) (B : Go mi d h0 (pc + 2) lv1 st h pc2 lv2 st2 h2) : Go mi d h0 pc lv ((.int x) :: st) h pc2 lv2 st2 h2 := by
  subst hs
  exact Go.one (fun G p e R s m args below meth c Q cells slots H locs ls hF hX g3 g4 hR hl K => lv_istore hF.1 hF.2.1 hd hl hn (mj_l1 G.ad i (.int x) lv).symm (fun ls1 h1 => K ls1 h1)) B
theorem go_lstore_n {k : Fin 4} {x : Int64} (hd : decode mi.2.1 pc = .ok (.lstore_n k, 1)) (hn : (k : Nat) + 1 < mi.2.2.1) {lv1 : List (Nat × Value)} (hs : mj_s2 (k : Nat) (.long x) lv = lv1) (B : Go mi d h0 (pc + 1) lv1 st h pc2 lv2 st2 h2) : Go mi d h0 pc lv ((.long x) :: st) h pc2 lv2 st2 h2 := by
  subst hs
  exact Go.one (fun G p e R s m args below meth c Q cells slots H locs ls hF hX g3 g4 hR hl K => lv_lstore_n hF.1 hF.2.1 hd rfl hl hn (mj_l2 G.ad (k : Nat) (.long x) lv).symm (fun ls1 h1 => K ls1 h1)) B
theorem go_lstore {i : Nat} {x : Int64} (hd : decode mi.2.1 pc = .ok (.lstore i, 2)) (hn : i + 1 < mi.2.2.1) {lv1 : List (Nat × Value)} (hs : mj_s2 i (.long x) lv = lv1) (B : Go mi d h0 (pc + 2) lv1 st h pc2 lv2 st2 h2) : Go mi d h0 pc lv ((.long x) :: st) h pc2 lv2 st2 h2 := by
  subst hs
  exact Go.one (fun G p e R s m args below meth c Q cells slots H locs ls hF hX g3 g4 hR hl K => lv_lstore hF.1 hF.2.1 hd hl hn (mj_l2 G.ad i (.long x) lv).symm (fun ls1 h1 => K ls1 h1)) B
theorem go_astore_n {k : Fin 4} {o : Option Nat} (hd : decode mi.2.1 pc = .ok (.astore_n k, 1)) (hn : (k : Nat) < mi.2.2.1) {lv1 : List (Nat × Value)} (hs : mj_s1 (k : Nat) (va_rf o) lv = lv1) (B : Go mi d h0 (pc + 1) lv1 st h pc2 lv2 st2 h2) : Go mi d h0 pc lv ((va_rf o) :: st) h pc2 lv2 st2 h2 := by
  subst hs
  exact Go.one (fun G p e R s m args below meth c Q cells slots H locs ls hF hX g3 g4 hR hl K => by
    cases o with
    | none => exact lv_astore_nN hF.1 hF.2.1 hd rfl hl hn (mj_l1 G.ad (k : Nat) (va_rf none) lv).symm (fun ls1 h1 => K ls1 h1)
    | some a => exact lv_astore_n hF.1 hF.2.1 hd rfl hl hn (mj_l1 G.ad (k : Nat) (va_rf (some a)) lv).symm (fun ls1 h1 => K ls1 h1)) B
theorem go_astore {i : Nat} {o : Option Nat} (hd : decode mi.2.1 pc = .ok (.astore i, 2)) (hn : i < mi.2.2.1) {lv1 : List (Nat × Value)} (hs : mj_s1 i (va_rf o) lv = lv1) (B : Go mi d h0 (pc + 2) lv1 st h pc2 lv2 st2 h2) : Go mi d h0 pc lv ((va_rf o) :: st) h pc2 lv2 st2 h2 := by
  subst hs
  exact Go.one (fun G p e R s m args below meth c Q cells slots H locs ls hF hX g3 g4 hR hl K => by
    cases o with
    | none => exact lv_astoreN hF.1 hF.2.1 hd hl hn (mj_l1 G.ad i (va_rf none) lv).symm (fun ls1 h1 => K ls1 h1)
    | some a => exact lv_astore hF.1 hF.2.1 hd hl hn (mj_l1 G.ad i (va_rf (some a)) lv).symm (fun ls1 h1 => K ls1 h1)) B
theorem go_iinc {i : Nat} {n : Int} {x v : Int32} (q : Nat) (hd : decode mi.2.1 pc = .ok (.iinc i n, 3)) (hv : lv[q]? = some (i, .int x)) (hx : x + Int32.ofInt n = v) (hn : i < mi.2.2.1) {lv1 : List (Nat × Value)} (hs : mj_s1 i (.int v) lv = lv1) (B : Go mi d h0 (pc + 3) lv1 st h pc2 lv2 st2 h2) : Go mi d h0 pc lv st h pc2 lv2 st2 h2 := by
  subst hs
  exact Go.one (fun G p e R s m args below meth c Q cells slots H locs ls hF hX g3 g4 hR hl K => lv_iinc (k := q) hF.1 hF.2.1 hd hl (by simp [mj_l, hv, mj_v]) hx hn (mj_l1 G.ad i (.int v) lv).symm (fun ls1 h1 => K ls1 h1)) B
theorem go_iadd {x y : Int32} (hd : decode mi.2.1 pc = .ok (.iadd, 1)) (B : Go mi d h0 (pc + 1) lv (.int (x + y) :: st) h pc2 lv2 st2 h2) : Go mi d h0 pc lv (.int y :: .int x :: st) h pc2 lv2 st2 h2 :=
  Go.one (fun G p e R s m args below meth c Q cells slots H locs ls hF hX g3 g4 hR hl K => lv_iadd hF.1 hF.2.1 hd (K ls hl)) B
theorem go_isub {x y : Int32} (hd : decode mi.2.1 pc = .ok (.isub, 1)) (B : Go mi d h0 (pc + 1) lv (.int (x - y) :: st) h pc2 lv2 st2 h2) : Go mi d h0 pc lv (.int y :: .int x :: st) h pc2 lv2 st2 h2 :=
  Go.one (fun G p e R s m args below meth c Q cells slots H locs ls hF hX g3 g4 hR hl K => lv_isub hF.1 hF.2.1 hd (K ls hl)) B
theorem go_imul {x y : Int32} (hd : decode mi.2.1 pc = .ok (.imul, 1)) (B : Go mi d h0 (pc + 1) lv (.int (x * y) :: st) h pc2 lv2 st2 h2) : Go mi d h0 pc lv (.int y :: .int x :: st) h pc2 lv2 st2 h2 :=
  Go.one (fun G p e R s m args below meth c Q cells slots H locs ls hF hX g3 g4 hR hl K => lv_imul hF.1 hF.2.1 hd (K ls hl)) B
theorem go_iand {x y : Int32} (hd : decode mi.2.1 pc = .ok (.iand, 1)) (B : Go mi d h0 (pc + 1) lv (.int (x &&& y) :: st) h pc2 lv2 st2 h2) : Go mi d h0 pc lv (.int y :: .int x :: st) h pc2 lv2 st2 h2 :=
  Go.one (fun G p e R s m args below meth c Q cells slots H locs ls hF hX g3 g4 hR hl K => lv_iand hF.1 hF.2.1 hd (K ls hl)) B
theorem go_ior {x y : Int32} (hd : decode mi.2.1 pc = .ok (.ior, 1)) (B : Go mi d h0 (pc + 1) lv (.int (x ||| y) :: st) h pc2 lv2 st2 h2) : Go mi d h0 pc lv (.int y :: .int x :: st) h pc2 lv2 st2 h2 :=
  Go.one (fun G p e R s m args below meth c Q cells slots H locs ls hF hX g3 g4 hR hl K => lv_ior hF.1 hF.2.1 hd (K ls hl)) B
theorem go_ixor {x y : Int32} (hd : decode mi.2.1 pc = .ok (.ixor, 1)) (B : Go mi d h0 (pc + 1) lv (.int (x ^^^ y) :: st) h pc2 lv2 st2 h2) : Go mi d h0 pc lv (.int y :: .int x :: st) h pc2 lv2 st2 h2 :=
  Go.one (fun G p e R s m args below meth c Q cells slots H locs ls hF hX g3 g4 hR hl K => lv_ixor hF.1 hF.2.1 hd (K ls hl)) B
def mj_irem (x y : Int32) : Int32 := x - x / y * y
def mj_lrem (x y : Int64) : Int64 := x - x / y * y
theorem go_idiv {x y : Int32} (hd : decode mi.2.1 pc = .ok (.idiv, 1)) (hne : ¬ y = 0) (B : Go mi d h0 (pc + 1) lv (.int (x / y) :: st) h pc2 lv2 st2 h2) : Go mi d h0 pc lv (.int y :: .int x :: st) h pc2 lv2 st2 h2 :=
  Go.one (fun G p e R s m args below meth c Q cells slots H locs ls hF hX g3 g4 hR hl K => lv_idiv hF.1 hF.2.1 hd hne (K ls hl)) B
theorem go_ldiv {x y : Int64} (hd : decode mi.2.1 pc = .ok (.ldiv, 1)) (hne : ¬ y = 0) (B : Go mi d h0 (pc + 1) lv (.long (x / y) :: st) h pc2 lv2 st2 h2) : Go mi d h0 pc lv (.long y :: .long x :: st) h pc2 lv2 st2 h2 :=
  Go.one (fun G p e R s m args below meth c Q cells slots H locs ls hF hX g3 g4 hR hl K => lv_ldiv hF.1 hF.2.1 hd hne (K ls hl)) B
theorem go_irem {x y : Int32} (hd : decode mi.2.1 pc = .ok (.irem, 1)) (hne : ¬ y = 0) (B : Go mi d h0 (pc + 1) lv (.int (mj_irem x y) :: st) h pc2 lv2 st2 h2) : Go mi d h0 pc lv (.int y :: .int x :: st) h pc2 lv2 st2 h2 :=
  Go.one (fun G p e R s m args below meth c Q cells slots H locs ls hF hX g3 g4 hR hl K => lv_irem hF.1 hF.2.1 hd hne (K ls hl)) B
theorem go_lrem {x y : Int64} (hd : decode mi.2.1 pc = .ok (.lrem, 1)) (hne : ¬ y = 0) (B : Go mi d h0 (pc + 1) lv (.long (mj_lrem x y) :: st) h pc2 lv2 st2 h2) : Go mi d h0 pc lv (.long y :: .long x :: st) h pc2 lv2 st2 h2 :=
  Go.one (fun G p e R s m args below meth c Q cells slots H locs ls hF hX g3 g4 hR hl K => lv_lrem hF.1 hF.2.1 hd hne (K ls hl)) B
theorem go_ineg {x : Int32} (hd : decode mi.2.1 pc = .ok (.ineg, 1)) (B : Go mi d h0 (pc + 1) lv (.int (-x) :: st) h pc2 lv2 st2 h2) : Go mi d h0 pc lv (.int x :: st) h pc2 lv2 st2 h2 :=
  Go.one (fun G p e R s m args below meth c Q cells slots H locs ls hF hX g3 g4 hR hl K => lv_ineg hF.1 hF.2.1 hd (K ls hl)) B
theorem go_ladd {x y : Int64} (hd : decode mi.2.1 pc = .ok (.ladd, 1)) (B : Go mi d h0 (pc + 1) lv (.long (x + y) :: st) h pc2 lv2 st2 h2) : Go mi d h0 pc lv (.long y :: .long x :: st) h pc2 lv2 st2 h2 :=
  Go.one (fun G p e R s m args below meth c Q cells slots H locs ls hF hX g3 g4 hR hl K => lv_ladd hF.1 hF.2.1 hd (K ls hl)) B
theorem go_lmul {x y : Int64} (hd : decode mi.2.1 pc = .ok (.lmul, 1)) (B : Go mi d h0 (pc + 1) lv (.long (x * y) :: st) h pc2 lv2 st2 h2) : Go mi d h0 pc lv (.long y :: .long x :: st) h pc2 lv2 st2 h2 :=
  Go.one (fun G p e R s m args below meth c Q cells slots H locs ls hF hX g3 g4 hR hl K => lv_lmul hF.1 hF.2.1 hd (K ls hl)) B
theorem go_ishl {x y : Int32} (hd : decode mi.2.1 pc = .ok (.ishl, 1)) (B : Go mi d h0 (pc + 1) lv (.int (x <<< (y &&& 31)) :: st) h pc2 lv2 st2 h2) : Go mi d h0 pc lv (.int y :: .int x :: st) h pc2 lv2 st2 h2 :=
  Go.one (fun G p e R s m args below meth c Q cells slots H locs ls hF hX g3 g4 hR hl K => lv_ishl hF.1 hF.2.1 hd (K ls hl)) B
theorem go_ishr {x y : Int32} (hd : decode mi.2.1 pc = .ok (.ishr, 1)) (B : Go mi d h0 (pc + 1) lv (.int (x >>> (y &&& 31)) :: st) h pc2 lv2 st2 h2) : Go mi d h0 pc lv (.int y :: .int x :: st) h pc2 lv2 st2 h2 :=
  Go.one (fun G p e R s m args below meth c Q cells slots H locs ls hF hX g3 g4 hR hl K => lv_ishr hF.1 hF.2.1 hd (K ls hl)) B
theorem go_iushr {x y : Int32} (hd : decode mi.2.1 pc = .ok (.iushr, 1)) (B : Go mi d h0 (pc + 1) lv (.int (x.toUInt32 >>> (y.toUInt32 &&& Int32.toUInt32 31)).toInt32 :: st) h pc2 lv2 st2 h2) : Go mi d h0 pc lv (.int y :: .int x :: st) h pc2 lv2 st2 h2 :=
  Go.one (fun G p e R s m args below meth c Q cells slots H locs ls hF hX g3 g4 hR hl K => lv_iushr hF.1 hF.2.1 hd rfl (K ls hl)) B
theorem go_i2l {x : Int32} (hd : decode mi.2.1 pc = .ok (.i2l, 1)) (B : Go mi d h0 (pc + 1) lv (.long x.toInt64 :: st) h pc2 lv2 st2 h2) : Go mi d h0 pc lv (.int x :: st) h pc2 lv2 st2 h2 :=
  Go.one (fun G p e R s m args below meth c Q cells slots H locs ls hF hX g3 g4 hR hl K => lv_i2l hF.1 hF.2.1 hd rfl (K ls hl)) B
theorem go_l2i {x : Int64} (hd : decode mi.2.1 pc = .ok (.l2i, 1)) (B : Go mi d h0 (pc + 1) lv (.int x.toInt32 :: st) h pc2 lv2 st2 h2) : Go mi d h0 pc lv (.long x :: st) h pc2 lv2 st2 h2 :=
  Go.one (fun G p e R s m args below meth c Q cells slots H locs ls hF hX g3 g4 hR hl K => lv_l2i hF.1 hF.2.1 hd rfl (K ls hl)) B
theorem go_i2b {x : Int32} (hd : decode mi.2.1 pc = .ok (.i2b, 1)) (B : Go mi d h0 (pc + 1) lv (.int x.toInt8.toInt32 :: st) h pc2 lv2 st2 h2) : Go mi d h0 pc lv (.int x :: st) h pc2 lv2 st2 h2 :=
  Go.one (fun G p e R s m args below meth c Q cells slots H locs ls hF hX g3 g4 hR hl K => lv_i2b hF.1 hF.2.1 hd rfl (K ls hl)) B
theorem go_i2s {x : Int32} (hd : decode mi.2.1 pc = .ok (.i2s, 1)) (B : Go mi d h0 (pc + 1) lv (.int x.toInt16.toInt32 :: st) h pc2 lv2 st2 h2) : Go mi d h0 pc lv (.int x :: st) h pc2 lv2 st2 h2 :=
  Go.one (fun G p e R s m args below meth c Q cells slots H locs ls hF hX g3 g4 hR hl K => lv_i2s hF.1 hF.2.1 hd rfl (K ls hl)) B
theorem go_lcmp {x y : Int64} (hd : decode mi.2.1 pc = .ok (.lcmp, 1)) (B : Go mi d h0 (pc + 1) lv (.int (lg_cmp x y) :: st) h pc2 lv2 st2 h2) : Go mi d h0 pc lv (.long y :: .long x :: st) h pc2 lv2 st2 h2 :=
  Go.one (fun G p e R s m args below meth c Q cells slots H locs ls hF hX g3 g4 hR hl K => W.lcmp hF.1 hF.2.1 hd (K ls hl)) B
theorem go_dup {v : Value} (hd : decode mi.2.1 pc = .ok (.dup, 1)) (hv : v.category = 1) (B : Go mi d h0 (pc + 1) lv (v :: v :: st) h pc2 lv2 st2 h2) : Go mi d h0 pc lv (v :: st) h pc2 lv2 st2 h2 :=
  Go.one (fun G p e R s m args below meth c Q cells slots H locs ls hF hX g3 g4 hR hl K => lv_dup hF.1 hF.2.1 hd ((mj_cat _ _).trans hv) (K ls hl)) B
theorem go_pop {v : Value} (hd : decode mi.2.1 pc = .ok (.pop, 1)) (hv : v.category = 1) (B : Go mi d h0 (pc + 1) lv st h pc2 lv2 st2 h2) : Go mi d h0 pc lv (v :: st) h pc2 lv2 st2 h2 :=
  Go.one (fun G p e R s m args below meth c Q cells slots H locs ls hF hX g3 g4 hR hl K => lv_pop hF.1 hF.2.1 hd ((mj_cat _ _).trans hv) (K ls hl)) B
theorem go_dup2 {v w : Value} (hd : decode mi.2.1 pc = .ok (.dup2, 1)) (hv : v.category = 1) (hw : w.category = 1) (B : Go mi d h0 (pc + 1) lv (v :: w :: v :: w :: st) h pc2 lv2 st2 h2) : Go mi d h0 pc lv (v :: w :: st) h pc2 lv2 st2 h2 :=
  Go.one (fun G p e R s m args below meth c Q cells slots H locs ls hF hX g3 g4 hR hl K => lv_dup2_11 hF.1 hF.2.1 hd ((mj_cat _ _).trans hv) ((mj_cat _ _).trans hw) (K ls hl)) B
theorem go_if_eq_t {x : Int32} {off : Int} (tgt : Nat) (hd : decode mi.2.1 pc = .ok (.ifCond .eq off, 3)) (ht : (pc : Int) + off = (tgt : Int)) (hc : x = 0) (B : Go mi d h0 tgt lv st h pc2 lv2 st2 h2) : Go mi d h0 pc lv (.int x :: st) h pc2 lv2 st2 h2 :=
  Go.one (fun G p e R s m args below meth c Q cells slots H locs ls hF hX g3 g4 hR hl K => lv_if_eq hF.1 hF.2.1 hd ht (fun _ => K ls hl) (fun z => absurd hc z)) B
theorem go_if_eq_f {x : Int32} {off : Int} {tgt : Nat} (hd : decode mi.2.1 pc = .ok (.ifCond .eq off, 3)) (ht : (pc : Int) + off = (tgt : Int)) (hc : ¬ x = 0) (B : Go mi d h0 (pc + 3) lv st h pc2 lv2 st2 h2) : Go mi d h0 pc lv (.int x :: st) h pc2 lv2 st2 h2 :=
  Go.one (fun G p e R s m args below meth c Q cells slots H locs ls hF hX g3 g4 hR hl K => lv_if_eq hF.1 hF.2.1 hd ht (fun z => absurd z hc) (fun _ => K ls hl)) B
theorem go_icmp_eq_t {x y : Int32} {off : Int} (tgt : Nat) (hd : decode mi.2.1 pc = .ok (.if_icmp .eq off, 3)) (ht : (pc : Int) + off = (tgt : Int)) (hc : x = y) (B : Go mi d h0 tgt lv st h pc2 lv2 st2 h2) : Go mi d h0 pc lv (.int y :: .int x :: st) h pc2 lv2 st2 h2 :=
  Go.one (fun G p e R s m args below meth c Q cells slots H locs ls hF hX g3 g4 hR hl K => lv_icmp_eq hF.1 hF.2.1 hd ht (fun _ => K ls hl) (fun z => absurd hc z)) B
theorem go_icmp_eq_f {x y : Int32} {off : Int} {tgt : Nat} (hd : decode mi.2.1 pc = .ok (.if_icmp .eq off, 3)) (ht : (pc : Int) + off = (tgt : Int)) (hc : ¬ x = y) (B : Go mi d h0 (pc + 3) lv st h pc2 lv2 st2 h2) : Go mi d h0 pc lv (.int y :: .int x :: st) h pc2 lv2 st2 h2 :=
  Go.one (fun G p e R s m args below meth c Q cells slots H locs ls hF hX g3 g4 hR hl K => lv_icmp_eq hF.1 hF.2.1 hd ht (fun z => absurd z hc) (fun _ => K ls hl)) B
theorem go_if_ne_t {x : Int32} {off : Int} (tgt : Nat) (hd : decode mi.2.1 pc = .ok (.ifCond .ne off, 3)) (ht : (pc : Int) + off = (tgt : Int)) (hc : ¬ x = 0) (B : Go mi d h0 tgt lv st h pc2 lv2 st2 h2) : Go mi d h0 pc lv (.int x :: st) h pc2 lv2 st2 h2 :=
  Go.one (fun G p e R s m args below meth c Q cells slots H locs ls hF hX g3 g4 hR hl K => lv_if_ne hF.1 hF.2.1 hd ht (fun _ => K ls hl) (fun z => absurd z hc)) B
theorem go_if_ne_f {x : Int32} {off : Int} {tgt : Nat} (hd : decode mi.2.1 pc = .ok (.ifCond .ne off, 3)) (ht : (pc : Int) + off = (tgt : Int)) (hc : x = 0) (B : Go mi d h0 (pc + 3) lv st h pc2 lv2 st2 h2) : Go mi d h0 pc lv (.int x :: st) h pc2 lv2 st2 h2 :=
  Go.one (fun G p e R s m args below meth c Q cells slots H locs ls hF hX g3 g4 hR hl K => lv_if_ne hF.1 hF.2.1 hd ht (fun z => absurd hc z) (fun _ => K ls hl)) B
theorem go_icmp_ne_t {x y : Int32} {off : Int} (tgt : Nat) (hd : decode mi.2.1 pc = .ok (.if_icmp .ne off, 3)) (ht : (pc : Int) + off = (tgt : Int)) (hc : ¬ x = y) (B : Go mi d h0 tgt lv st h pc2 lv2 st2 h2) : Go mi d h0 pc lv (.int y :: .int x :: st) h pc2 lv2 st2 h2 :=
  Go.one (fun G p e R s m args below meth c Q cells slots H locs ls hF hX g3 g4 hR hl K => lv_icmp_ne hF.1 hF.2.1 hd ht (fun _ => K ls hl) (fun z => absurd z hc)) B
theorem go_icmp_ne_f {x y : Int32} {off : Int} {tgt : Nat} (hd : decode mi.2.1 pc = .ok (.if_icmp .ne off, 3)) (ht : (pc : Int) + off = (tgt : Int)) (hc : x = y) (B : Go mi d h0 (pc + 3) lv st h pc2 lv2 st2 h2) : Go mi d h0 pc lv (.int y :: .int x :: st) h pc2 lv2 st2 h2 :=
  Go.one (fun G p e R s m args below meth c Q cells slots H locs ls hF hX g3 g4 hR hl K => lv_icmp_ne hF.1 hF.2.1 hd ht (fun z => absurd hc z) (fun _ => K ls hl)) B
theorem go_if_lt_t {x : Int32} {off : Int} (tgt : Nat) (hd : decode mi.2.1 pc = .ok (.ifCond .lt off, 3)) (ht : (pc : Int) + off = (tgt : Int)) (hc : x < 0) (B : Go mi d h0 tgt lv st h pc2 lv2 st2 h2) : Go mi d h0 pc lv (.int x :: st) h pc2 lv2 st2 h2 :=
  Go.one (fun G p e R s m args below meth c Q cells slots H locs ls hF hX g3 g4 hR hl K => lv_if_lt hF.1 hF.2.1 hd ht (fun _ => K ls hl) (fun z => absurd hc z)) B
theorem go_if_lt_f {x : Int32} {off : Int} {tgt : Nat} (hd : decode mi.2.1 pc = .ok (.ifCond .lt off, 3)) (ht : (pc : Int) + off = (tgt : Int)) (hc : ¬ x < 0) (B : Go mi d h0 (pc + 3) lv st h pc2 lv2 st2 h2) : Go mi d h0 pc lv (.int x :: st) h pc2 lv2 st2 h2 :=
  Go.one (fun G p e R s m args below meth c Q cells slots H locs ls hF hX g3 g4 hR hl K => lv_if_lt hF.1 hF.2.1 hd ht (fun z => absurd z hc) (fun _ => K ls hl)) B
theorem go_icmp_lt_t {x y : Int32} {off : Int} (tgt : Nat) (hd : decode mi.2.1 pc = .ok (.if_icmp .lt off, 3)) (ht : (pc : Int) + off = (tgt : Int)) (hc : x < y) (B : Go mi d h0 tgt lv st h pc2 lv2 st2 h2) : Go mi d h0 pc lv (.int y :: .int x :: st) h pc2 lv2 st2 h2 :=
  Go.one (fun G p e R s m args below meth c Q cells slots H locs ls hF hX g3 g4 hR hl K => lv_icmp_lt hF.1 hF.2.1 hd ht (fun _ => K ls hl) (fun z => absurd hc z)) B
theorem go_icmp_lt_f {x y : Int32} {off : Int} {tgt : Nat} (hd : decode mi.2.1 pc = .ok (.if_icmp .lt off, 3)) (ht : (pc : Int) + off = (tgt : Int)) (hc : ¬ x < y) (B : Go mi d h0 (pc + 3) lv st h pc2 lv2 st2 h2) : Go mi d h0 pc lv (.int y :: .int x :: st) h pc2 lv2 st2 h2 :=
  Go.one (fun G p e R s m args below meth c Q cells slots H locs ls hF hX g3 g4 hR hl K => lv_icmp_lt hF.1 hF.2.1 hd ht (fun z => absurd z hc) (fun _ => K ls hl)) B
theorem go_if_ge_t {x : Int32} {off : Int} (tgt : Nat) (hd : decode mi.2.1 pc = .ok (.ifCond .ge off, 3)) (ht : (pc : Int) + off = (tgt : Int)) (hc : 0 ≤ x) (B : Go mi d h0 tgt lv st h pc2 lv2 st2 h2) : Go mi d h0 pc lv (.int x :: st) h pc2 lv2 st2 h2 :=
  Go.one (fun G p e R s m args below meth c Q cells slots H locs ls hF hX g3 g4 hR hl K => lv_if_ge hF.1 hF.2.1 hd ht (fun _ => K ls hl) (fun z => absurd hc z)) B
theorem go_if_ge_f {x : Int32} {off : Int} {tgt : Nat} (hd : decode mi.2.1 pc = .ok (.ifCond .ge off, 3)) (ht : (pc : Int) + off = (tgt : Int)) (hc : ¬ 0 ≤ x) (B : Go mi d h0 (pc + 3) lv st h pc2 lv2 st2 h2) : Go mi d h0 pc lv (.int x :: st) h pc2 lv2 st2 h2 :=
  Go.one (fun G p e R s m args below meth c Q cells slots H locs ls hF hX g3 g4 hR hl K => lv_if_ge hF.1 hF.2.1 hd ht (fun z => absurd z hc) (fun _ => K ls hl)) B
theorem go_icmp_ge_t {x y : Int32} {off : Int} (tgt : Nat) (hd : decode mi.2.1 pc = .ok (.if_icmp .ge off, 3)) (ht : (pc : Int) + off = (tgt : Int)) (hc : y ≤ x) (B : Go mi d h0 tgt lv st h pc2 lv2 st2 h2) : Go mi d h0 pc lv (.int y :: .int x :: st) h pc2 lv2 st2 h2 :=
  Go.one (fun G p e R s m args below meth c Q cells slots H locs ls hF hX g3 g4 hR hl K => lv_icmp_ge hF.1 hF.2.1 hd ht (fun _ => K ls hl) (fun z => absurd hc z)) B
theorem go_icmp_ge_f {x y : Int32} {off : Int} {tgt : Nat} (hd : decode mi.2.1 pc = .ok (.if_icmp .ge off, 3)) (ht : (pc : Int) + off = (tgt : Int)) (hc : ¬ y ≤ x) (B : Go mi d h0 (pc + 3) lv st h pc2 lv2 st2 h2) : Go mi d h0 pc lv (.int y :: .int x :: st) h pc2 lv2 st2 h2 :=
  Go.one (fun G p e R s m args below meth c Q cells slots H locs ls hF hX g3 g4 hR hl K => lv_icmp_ge hF.1 hF.2.1 hd ht (fun z => absurd z hc) (fun _ => K ls hl)) B
theorem go_if_gt_t {x : Int32} {off : Int} (tgt : Nat) (hd : decode mi.2.1 pc = .ok (.ifCond .gt off, 3)) (ht : (pc : Int) + off = (tgt : Int)) (hc : 0 < x) (B : Go mi d h0 tgt lv st h pc2 lv2 st2 h2) : Go mi d h0 pc lv (.int x :: st) h pc2 lv2 st2 h2 :=
  Go.one (fun G p e R s m args below meth c Q cells slots H locs ls hF hX g3 g4 hR hl K => lv_if_gt hF.1 hF.2.1 hd ht (fun _ => K ls hl) (fun z => absurd hc z)) B
theorem go_if_gt_f {x : Int32} {off : Int} {tgt : Nat} (hd : decode mi.2.1 pc = .ok (.ifCond .gt off, 3)) (ht : (pc : Int) + off = (tgt : Int)) (hc : ¬ 0 < x) (B : Go mi d h0 (pc + 3) lv st h pc2 lv2 st2 h2) : Go mi d h0 pc lv (.int x :: st) h pc2 lv2 st2 h2 :=
  Go.one (fun G p e R s m args below meth c Q cells slots H locs ls hF hX g3 g4 hR hl K => lv_if_gt hF.1 hF.2.1 hd ht (fun z => absurd z hc) (fun _ => K ls hl)) B
theorem go_icmp_gt_t {x y : Int32} {off : Int} (tgt : Nat) (hd : decode mi.2.1 pc = .ok (.if_icmp .gt off, 3)) (ht : (pc : Int) + off = (tgt : Int)) (hc : y < x) (B : Go mi d h0 tgt lv st h pc2 lv2 st2 h2) : Go mi d h0 pc lv (.int y :: .int x :: st) h pc2 lv2 st2 h2 :=
  Go.one (fun G p e R s m args below meth c Q cells slots H locs ls hF hX g3 g4 hR hl K => lv_icmp_gt hF.1 hF.2.1 hd ht (fun _ => K ls hl) (fun z => absurd hc z)) B
theorem go_icmp_gt_f {x y : Int32} {off : Int} {tgt : Nat} (hd : decode mi.2.1 pc = .ok (.if_icmp .gt off, 3)) (ht : (pc : Int) + off = (tgt : Int)) (hc : ¬ y < x) (B : Go mi d h0 (pc + 3) lv st h pc2 lv2 st2 h2) : Go mi d h0 pc lv (.int y :: .int x :: st) h pc2 lv2 st2 h2 :=
  Go.one (fun G p e R s m args below meth c Q cells slots H locs ls hF hX g3 g4 hR hl K => lv_icmp_gt hF.1 hF.2.1 hd ht (fun z => absurd z hc) (fun _ => K ls hl)) B
theorem go_if_le_t {x : Int32} {off : Int} (tgt : Nat) (hd : decode mi.2.1 pc = .ok (.ifCond .le off, 3)) (ht : (pc : Int) + off = (tgt : Int)) (hc : x ≤ 0) (B : Go mi d h0 tgt lv st h pc2 lv2 st2 h2) : Go mi d h0 pc lv (.int x :: st) h pc2 lv2 st2 h2 :=
  Go.one (fun G p e R s m args below meth c Q cells slots H locs ls hF hX g3 g4 hR hl K => lv_if_le hF.1 hF.2.1 hd ht (fun _ => K ls hl) (fun z => absurd hc z)) B
theorem go_if_le_f {x : Int32} {off : Int} {tgt : Nat} (hd : decode mi.2.1 pc = .ok (.ifCond .le off, 3)) (ht : (pc : Int) + off = (tgt : Int)) (hc : ¬ x ≤ 0) (B : Go mi d h0 (pc + 3) lv st h pc2 lv2 st2 h2) : Go mi d h0 pc lv (.int x :: st) h pc2 lv2 st2 h2 :=
  Go.one (fun G p e R s m args below meth c Q cells slots H locs ls hF hX g3 g4 hR hl K => lv_if_le hF.1 hF.2.1 hd ht (fun z => absurd z hc) (fun _ => K ls hl)) B
theorem go_icmp_le_t {x y : Int32} {off : Int} (tgt : Nat) (hd : decode mi.2.1 pc = .ok (.if_icmp .le off, 3)) (ht : (pc : Int) + off = (tgt : Int)) (hc : x ≤ y) (B : Go mi d h0 tgt lv st h pc2 lv2 st2 h2) : Go mi d h0 pc lv (.int y :: .int x :: st) h pc2 lv2 st2 h2 :=
  Go.one (fun G p e R s m args below meth c Q cells slots H locs ls hF hX g3 g4 hR hl K => lv_icmp_le hF.1 hF.2.1 hd ht (fun _ => K ls hl) (fun z => absurd hc z)) B
theorem go_icmp_le_f {x y : Int32} {off : Int} {tgt : Nat} (hd : decode mi.2.1 pc = .ok (.if_icmp .le off, 3)) (ht : (pc : Int) + off = (tgt : Int)) (hc : ¬ x ≤ y) (B : Go mi d h0 (pc + 3) lv st h pc2 lv2 st2 h2) : Go mi d h0 pc lv (.int y :: .int x :: st) h pc2 lv2 st2 h2 :=
  Go.one (fun G p e R s m args below meth c Q cells slots H locs ls hF hX g3 g4 hR hl K => lv_icmp_le hF.1 hF.2.1 hd ht (fun z => absurd z hc) (fun _ => K ls hl)) B
theorem go_goto {off : Int} (tgt : Nat) (hd : decode mi.2.1 pc = .ok (.goto off, 3)) (ht : (pc : Int) + off = (tgt : Int)) (B : Go mi d h0 tgt lv st h pc2 lv2 st2 h2) : Go mi d h0 pc lv st h pc2 lv2 st2 h2 :=
  Go.one (fun G p e R s m args below meth c Q cells slots H locs ls hF hX g3 g4 hR hl K => lv_goto hF.1 hF.2.1 hd ht (K ls hl)) B
theorem go_ifnull_t {off : Int} (tgt : Nat) {o : Option Nat} (hd : decode mi.2.1 pc = .ok (.ifnull off, 3)) (ht : (pc : Int) + off = (tgt : Int)) (hc : o = none) (B : Go mi d h0 tgt lv st h pc2 lv2 st2 h2) : Go mi d h0 pc lv (va_rf o :: st) h pc2 lv2 st2 h2 := by
  subst hc
  exact Go.one (fun G p e R s m args below meth c Q cells slots H locs ls hF hX g3 g4 hR hl K => lv_ifnullN hF.1 hF.2.1 hd ht (K ls hl)) B
theorem go_ifnull_f {off : Int} {tgt : Nat} {o : Option Nat} (hd : decode mi.2.1 pc = .ok (.ifnull off, 3)) (ht : (pc : Int) + off = (tgt : Int)) (hc : ¬ o = none) (B : Go mi d h0 (pc + 3) lv st h pc2 lv2 st2 h2) : Go mi d h0 pc lv (va_rf o :: st) h pc2 lv2 st2 h2 := by
  cases o with
  | none => exact absurd rfl hc
  | some a => exact Go.one (fun G p e R s m args below meth c Q cells slots H locs ls hF hX g3 g4 hR hl K => lv_ifnull hF.1 hF.2.1 hd (K ls hl)) B
theorem go_ifnonnull_t {off : Int} (tgt : Nat) {o : Option Nat} (hd : decode mi.2.1 pc = .ok (.ifnonnull off, 3)) (ht : (pc : Int) + off = (tgt : Int)) (hc : ¬ o = none) (B : Go mi d h0 tgt lv st h pc2 lv2 st2 h2) : Go mi d h0 pc lv (va_rf o :: st) h pc2 lv2 st2 h2 := by
  cases o with
  | none => exact absurd rfl hc
  | some a => exact Go.one (fun G p e R s m args below meth c Q cells slots H locs ls hF hX g3 g4 hR hl K => lv_ifnonnull hF.1 hF.2.1 hd ht (K ls hl)) B
theorem go_ifnonnull_f {off : Int} {tgt : Nat} {o : Option Nat} (hd : decode mi.2.1 pc = .ok (.ifnonnull off, 3)) (ht : (pc : Int) + off = (tgt : Int)) (hc : o = none) (B : Go mi d h0 (pc + 3) lv st h pc2 lv2 st2 h2) : Go mi d h0 pc lv (va_rf o :: st) h pc2 lv2 st2 h2 := by
  subst hc
  exact Go.one (fun G p e R s m args below meth c Q cells slots H locs ls hF hX g3 g4 hR hl K => lv_ifnonnullN hF.1 hF.2.1 hd (K ls hl)) B
/-- switches: the offset that the table says for x -/
def mj_sw (dflt lo hi : Int) (offs : Array Int) (x : Int32) : Int := if x.toInt < lo ∨ hi < x.toInt then dflt else offs.getD (x.toInt - lo).toNat 0
theorem go_tsw {dflt lo hi : Int} {offs : Array Int} {len : Nat} {x : Int32} (tgt : Nat) (hd : decode mi.2.1 pc = .ok (.tableswitch dflt lo hi offs, len)) (hn : (hi - lo).toNat < offs.size) (ht : (pc : Int) + mj_sw dflt lo hi offs x = (tgt : Int)) (B : Go mi d h0 tgt lv st h pc2 lv2 st2 h2) : Go mi d h0 pc lv (.int x :: st) h pc2 lv2 st2 h2 := by
  refine Go.one (fun G p e R s m args below meth c Q cells slots H locs ls hF hX g3 g4 hR hl K => ?_) B
  unfold mj_sw at ht
  by_cases hx : x.toInt < lo ∨ hi < x.toInt
  · rw [if_pos hx] at ht
    exact lv_tableOut hF.1 hF.2.1 hd hx ht (K ls hl)
  · rw [if_neg hx] at ht
    refine lv_tableIn hF.1 hF.2.1 hd (fun z => hx (Or.inl z)) (fun z => hx (Or.inr z)) (off := offs.getD (x.toInt - lo).toNat 0) ?_ ht (K ls hl)
    have hlt : (x.toInt - lo).toNat < offs.size := by omega
    rw [Array.getD_eq_getD_getElem?, Array.getElem?_eq_getElem hlt]
    rfl
theorem go_lsw {dflt : Int} {ps : Array (Int × Int)} {len : Nat} {x : Int32} (tgt : Nat) (hd : decode mi.2.1 pc = .ok (.lookupswitch dflt ps, len)) (hp : (ps.toList.zip (ps.toList.drop 1)).all (fun (a, next) => a.1 < next.1) = true) (ht : (pc : Int) + Op.lookupswitch.offset ps.toList dflt x.toInt = (tgt : Int)) (B : Go mi d h0 tgt lv st h pc2 lv2 st2 h2) : Go mi d h0 pc lv (.int x :: st) h pc2 lv2 st2 h2 :=
  Go.one (fun G p e R s m args below meth c Q cells slots H locs ls hF hX g3 g4 hR hl K => lv_lookup hF.1 hF.2.1 hd hp rfl ht (K ls hl)) B
end GO1
