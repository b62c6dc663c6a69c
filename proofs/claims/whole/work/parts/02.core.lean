/-! ===== the small picture of the heap: cells by number, arrays as functions, objects as lists; numbers 0, 1, 2 are EAST, SOUTH and the script ===== -/
abbrev MC : Type := (Nat × Nat × (Nat → Int32)) ⊕ ((Nat × Nat × (Nat → Option Nat)) ⊕ (Nat × List Value))
abbrev MH : Type := (Nat → MC) × Nat × Nat
/-- the launch; the classes' numbers and slots; the array classes; the addresses; where what is made begins -/
abbrev CX : Type := Launch × va_G × (Nat → ClassId) × (Nat → Nat) × Nat
abbrev CX.l (G : CX) : Launch := G.1
abbrev CX.D (G : CX) : va_G := G.2.1
abbrev CX.cA (G : CX) : Nat → ClassId := G.2.2.1
abbrev CX.ad (G : CX) : Nat → Nat := G.2.2.2.1
abbrev CX.base (G : CX) : Nat := G.2.2.2.2
def mj_v (ad : Nat → Nat) : Value → Value
  | .ref a => .ref (ad a)
  | .int x => .int x
  | .long x => .long x
  | .float x => .float x
  | .double x => .double x
  | .null => .null
  | .retAddr a => .retAddr a
def mj_e (G : CX) : MC → va_E
  | .inl (t, n, f) => .inl (G.cA t, n, .inl f)
  | .inr (.inl (t, n, f)) => .inl (G.cA t, n, .inr (.inr (.inr (.inr (fun j => (f j).map G.ad)))))
  | .inr (.inr (ci, fs)) => .inr (ci, fs.map (mj_v G.ad))
def mj_l (ad : Nat → Nat) (lv : List (Nat × Value)) : List (Nat × Value) := lv.map fun q => (q.1, mj_v ad q.2)
def mj_nil : MC := .inr (.inr (0, []))
def mj_aty : Nat → FieldType := fun k => match k with
  | 0 => .int
  | 1 => .boolean
  | 2 => .object "WideTurn$Hand"
  | _ => .object "WideTurn$Basin"
def mj_tys (G : CX) : List (ClassId × FieldType) := [(G.cA 0, mj_aty 0), (G.cA 1, mj_aty 1), (G.cA 2, mj_aty 2), (G.cA 3, mj_aty 3)]
theorem mj_tys_at (G : CX) {t : Nat} (h : t < 4) : (mj_tys G)[t]? = some (G.cA t, mj_aty t) := by
  rcases (show t = 0 ∨ t = 1 ∨ t = 2 ∨ t = 3 by omega) with rfl | rfl | rfl | rfl <;> rfl
/-- which pairs of classes are not castable -/
def mj_nc : List (String × String) := (["WideTurn$Swinger", "WideTurn$Poler", "WideTurn$Roper", "WideTurn$Shover", "WideTurn$Lifter"].flatMap fun a => ["WideTurn$Swinger", "WideTurn$Poler", "WideTurn$Roper", "WideTurn$Shover", "WideTurn$Lifter"].map fun b => (a, b)).filter fun q => q.1 ≠ q.2 && !(q.2 == "WideTurn$Swinger" && (q.1 == "WideTurn$Poler" || q.1 == "WideTurn$Roper")) && !(q.2 == "WideTurn$Shover" && q.1 == "WideTurn$Lifter")
/-- what stays true of the machine from the law's start on -/
def mj_Fx (G : CX) (s : State) : Prop :=
  va_K G.D mj_cl (mj_tys G) s ∧ (∀ i, 3 ≤ i → G.ad i = G.base + (i - 3)) ∧ (∀ i, i < 3 → G.ad i < G.base) ∧ (∀ w ∈ mj_bad, va_Nw w s) ∧ (∀ q ∈ mj_nc, va_Nc q.1 q.2 s)
/-- an int array that was there before, of n places at least -/
def mj_X (b n : Nat) (f : Nat → Int32) (U : State) (H : Heap) : Prop := ∃ scr : Cell, H[b]? = some scr ∧ U.isArrayOf scr .int ∧ scr.vm ≠ .unknown ∧ n ≤ scr.slots.size ∧ scr.slots.size.toInt32 = Int32.ofNat n ∧ ∀ j : Nat, j < n → scr.slots[j]? = some (.int (f j))
theorem mj_X.kept {b n : Nat} {f : Nat → Int32} {U : State} {H H1 : Heap} (h : mj_X b n f U H) (hq : H1[b]? = H[b]?) : mj_X b n f U H1 := by
  obtain ⟨scr, h1, h2⟩ := h
  exact ⟨scr, hq.trans h1, h2⟩
theorem mj_X.moved {b n : Nat} {f : Nat → Int32} {u U : State} {H : Heap} (hvm : u.vm.Alike U.vm) (h : mj_X b n f u H) : mj_X b n f U H := by
  obtain ⟨scr, h1, h2, h3⟩ := h
  exact ⟨scr, h1, State.isArrayOf_alike hvm h2, h3⟩
/-- the heap H holds the picture h; below base it is as at this frame's start -/
def mj_Rep (G : CX) (s : State) (h : MH) (H : Heap) (locs : List Loc) : Prop :=
  H.size + 3 = G.base + h.2.1 ∧ 3 ≤ h.2.1 ∧
  (∀ i, 3 ≤ i → i < h.2.1 → va_at G.D mj_cl (G.ad i, mj_e G (h.1 i)) H) ∧
  (∀ i, h.2.1 ≤ i → h.1 i = mj_nil) ∧
  (∀ i, i < 3 → ∃ (n : Nat) (f : Nat → Int32), h.1 i = .inl (0, n, f) ∧ mj_X (G.ad i) n f s H) ∧
  (∀ i, i < 2 → va_Z "WideTurn" (if i = 0 then "EAST" else "SOUTH") "[I" (.ref (G.ad i)) (fun q => G.base ≤ q) s H) ∧
  (∀ q, q < G.base → H[q]? = s.heap[q]?) ∧ G.base ≤ s.heap.size ∧ ∀ q ∈ locs, G.base ≤ q.base
/-- a method: its name, its bytes, how many locals, what it returns -/
abbrev MI : Type := MethodName × ByteArray × Nat × Option FieldType
def mj_Fr (mi : MI) (p : Program) (s : State) (m : MethodId) (args : Array Value) (meth : Method) (c : Code) : Prop :=
  p.tables.exec = Jvm.exec ∧ c.code = mi.2.1 ∧ c.maxLocals = mi.2.2.1 ∧ s.vm.findClass mi.1.cls = some m.cls ∧ (∀ w ∈ mj_tbl, w.before args s = true) ∧ meth.name = mi.1.name ∧ meth.sig.returnType = mi.2.2.2 ∧ meth.locks = false
/-- from one place of a frame (pc, locals, stack, heap) the machine comes to another of the same frame -/
def Go (mi : MI) (d : Nat) (h0 : MH) (pc : Nat) (lv : List (Nat × Value)) (st : List Value) (h : MH) (pc' : Nat) (lv' : List (Nat × Value)) (st' : List Value) (h' : MH) : Prop :=
  h.2.1 ≤ h'.2.1 ∧ h.2.2 ≤ h'.2.2 ∧
  ∀ (G : CX) (p : Program) (e : Env) (R : Room) (s : State) (m : MethodId) (args : Array Value) (below : List Frame) (meth : Method) (c : Code) (Q : State → Prop),
    mj_Fr mi p s m args meth c → mj_Fx G s → h0.2.1 ≤ h.2.1 → h0.2.2 ≤ h.2.2 → d ≤ R.frames → 64 * d ≤ R.locals → h'.2.1 - h0.2.1 ≤ R.cells → h'.2.2 - h0.2.2 ≤ R.slots →
    (∀ (H : Heap) (locs : List Loc) (ls : Array Slot), mj_Rep G s h' H locs → lv_has ls mi.2.2.1 (mj_l G.ad lv') → W p G.l e R s m args below meth c H locs (h'.2.1 - h0.2.1) (h'.2.2 - h0.2.2) Q (F0 m pc' ls (st'.map (mj_v G.ad)))) →
    ∀ (H : Heap) (locs : List Loc) (ls : Array Slot), mj_Rep G s h H locs → lv_has ls mi.2.2.1 (mj_l G.ad lv) → W p G.l e R s m args below meth c H locs (h.2.1 - h0.2.1) (h.2.2 - h0.2.2) Q (F0 m pc ls (st.map (mj_v G.ad)))
theorem Go.rf {mi : MI} {d : Nat} {h0 : MH} {pc : Nat} {lv : List (Nat × Value)} {st : List Value} {h : MH} : Go mi d h0 pc lv st h pc lv st h :=
  ⟨Nat.le_refl _, Nat.le_refl _, fun _ _ _ _ _ _ _ _ _ _ _ _ _ _ _ _ _ _ _ hQ => hQ⟩
theorem Go.tr {mi : MI} {d : Nat} {h0 : MH} {pc pc1 pc2 : Nat} {lv lv1 lv2 : List (Nat × Value)} {st st1 st2 : List Value} {h h1 h2 : MH} (A : Go mi d h0 pc lv st h pc1 lv1 st1 h1) (B : Go mi d h0 pc1 lv1 st1 h1 pc2 lv2 st2 h2) : Go mi d h0 pc lv st h pc2 lv2 st2 h2 := by
  obtain ⟨a1, a2, a3⟩ := A
  obtain ⟨b1, b2, b3⟩ := B
  refine ⟨Nat.le_trans a1 b1, Nat.le_trans a2 b2, fun G p e R s m args below meth c Q hF hX g1 g2 g3 g4 g5 g6 hQ => ?_⟩
  exact a3 G p e R s m args below meth c Q hF hX g1 g2 g3 g4 (Nat.le_trans (Nat.sub_le_sub_right b1 _) g5) (Nat.le_trans (Nat.sub_le_sub_right b2 _) g6)
    (b3 G p e R s m args below meth c Q hF hX (Nat.le_trans g1 a1) (Nat.le_trans g2 a2) g3 g4 g5 g6 hQ)
/-- more depth, more room -/
theorem Go.up {mi : MI} {d d' : Nat} {h0 : MH} {pc pc1 : Nat} {lv lv1 : List (Nat × Value)} {st st1 : List Value} {h h1 : MH} (hd : d ≤ d') (A : Go mi d h0 pc lv st h pc1 lv1 st1 h1) : Go mi d' h0 pc lv st h pc1 lv1 st1 h1 :=
  ⟨A.1, A.2.1, fun G p e R s m args below meth c Q hF hX g1 g2 g3 g4 g5 g6 hQ => A.2.2 G p e R s m args below meth c Q hF hX g1 g2 (Nat.le_trans hd g3) (Nat.le_trans (Nat.mul_le_mul_left 64 hd) g4) g5 g6 hQ⟩
/-- one instruction that leaves the heap alone -/
theorem Go.one {mi : MI} {d : Nat} {h0 : MH} {pc pc1 pc2 : Nat} {lv lv1 lv2 : List (Nat × Value)} {st st1 st2 : List Value} {h h2 : MH}
    (A : ∀ (G : CX) (p : Program) (e : Env) (R : Room) (s : State) (m : MethodId) (args : Array Value) (below : List Frame) (meth : Method) (c : Code) (Q : State → Prop) (cells slots : Nat) (H : Heap) (locs : List Loc) (ls : Array Slot),
      mj_Fr mi p s m args meth c → mj_Fx G s → d ≤ R.frames → 64 * d ≤ R.locals → mj_Rep G s h H locs → lv_has ls mi.2.2.1 (mj_l G.ad lv) →
      (∀ ls1 : Array Slot, lv_has ls1 mi.2.2.1 (mj_l G.ad lv1) → W p G.l e R s m args below meth c H locs cells slots Q (F0 m pc1 ls1 (st1.map (mj_v G.ad)))) →
      W p G.l e R s m args below meth c H locs cells slots Q (F0 m pc ls (st.map (mj_v G.ad))))
    (B : Go mi d h0 pc1 lv1 st1 h pc2 lv2 st2 h2) : Go mi d h0 pc lv st h pc2 lv2 st2 h2 := by
  obtain ⟨b1, b2, b3⟩ := B
  refine ⟨b1, b2, fun G p e R s m args below meth c Q hF hX g1 g2 g3 g4 g5 g6 hQ H locs ls hR hl => ?_⟩
  exact A G p e R s m args below meth c Q _ _ H locs ls hF hX g3 g4 hR hl (fun ls1 hl1 => b3 G p e R s m args below meth c Q hF hX g1 g2 g3 g4 g5 g6 hQ H locs ls1 hR hl1)
theorem mj_cat (ad : Nat → Nat) (v : Value) : (mj_v ad v).category = v.category := by cases v <;> rfl
theorem mj_lat {ad : Nat → Nat} {ls : Array Slot} {nL : Nat} {lv : List (Nat × Value)} (h : lv_has ls nL (mj_l ad lv)) {k i : Nat} {v : Value} (hk : lv[k]? = some (i, v)) : ls[i]? = some (.val (mj_v ad v)) :=
  lv_at h k (by simp [mj_l, hk])
def mj_s1 (i : Nat) (v : Value) (lv : List (Nat × Value)) : List (Nat × Value) := (i, v) :: lv.filter (fun q => !(q.1 == i) && !(q.1 + 1 == i && q.2.category == 2))
def mj_s2 (i : Nat) (v : Value) (lv : List (Nat × Value)) : List (Nat × Value) := (i, v) :: lv.filter (fun q => !(q.1 == i) && (!(q.1 == i + 1) && !(q.1 + 1 == i && q.2.category == 2)))
theorem mj_l1 (ad : Nat → Nat) (i : Nat) (v : Value) (lv : List (Nat × Value)) : mj_l ad (mj_s1 i v lv) = (i, mj_v ad v) :: (mj_l ad lv).filter (fun q => !(q.1 == i) && !(q.1 + 1 == i && q.2.category == 2)) := by
  unfold mj_l mj_s1
  rw [List.map_cons, List.filter_map]
  congr 2
  apply List.filter_congr
  intro q _
  simp only [Function.comp, mj_cat]
theorem mj_l2 (ad : Nat → Nat) (i : Nat) (v : Value) (lv : List (Nat × Value)) : mj_l ad (mj_s2 i v lv) = (i, mj_v ad v) :: (mj_l ad lv).filter (fun q => !(q.1 == i) && (!(q.1 == i + 1) && !(q.1 + 1 == i && q.2.category == 2))) := by
  unfold mj_l mj_s2
  rw [List.map_cons, List.filter_map]
  congr 2
  apply List.filter_congr
  intro q _
  simp only [Function.comp, mj_cat]
