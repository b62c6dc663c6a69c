/-! ===== more of what the printed walks stand on: Math.max, Math.min ===== -/
theorem mj_cti (x : Int32) : (Value.int x).category = 1 := rfl
theorem mj_ctl (x : Int64) : (Value.long x).category = 2 := rfl
def mj_max (x y : Int32) : Int32 := if x < y then y else x
def mj_min (x y : Int32) : Int32 := if y < x then y else x
theorem w_mxC : Cond.code Lib.Math.max.name Lib.Math.max.code 2 (some .int) ∈ mj_tbl := mj_mem_tbl 559 (by decide +kernel) rfl
theorem w_mnC : Cond.code Lib.Math.min.name Lib.Math.min.code 2 (some .int) ∈ mj_tbl := mj_mem_tbl 633 (by decide +kernel) rfl
theorem w_mxS : Cond.static Lib.Math.max.name ∈ mj_tbl := mj_mem_tbl 558 (by decide +kernel) rfl
theorem w_mnS : Cond.static Lib.Math.min.name ∈ mj_tbl := mj_mem_tbl 632 (by decide +kernel) rfl
theorem w_mxI : Cond.initialized "java/lang/Math" ∈ mj_tbl := mj_mem_tbl 68 (by decide +kernel) rfl
section GO7
variable {mi : MI} {d : Nat} {h0 : MH} {pc pc1 pc2 : Nat} {lv lv1 lv2 : List (Nat × Value)} {st st1 st2 : List Value} {h h2 : MH}
theorem Go.one2
    (A : ∀ (G : CX) (p : Program) (e : Env) (R : Room) (s : State) (m : MethodId) (args : Array Value) (below : List Frame) (meth : Method) (c : Code) (Q : State → Prop) (cells slots : Nat) (H : Heap) (locs : List Loc) (ls : Array Slot),
      mj_Fr mi p s m args meth c → mj_Fx G s → d ≤ R.frames → 64 * d ≤ R.locals → cells ≤ R.cells → slots ≤ R.slots → mj_Rep G s h H locs → lv_has ls mi.2.2.1 (mj_l G.ad lv) →
      (∀ ls1 : Array Slot, lv_has ls1 mi.2.2.1 (mj_l G.ad lv1) → W p G.l e R s m args below meth c H locs cells slots Q (F0 m pc1 ls1 (st1.map (mj_v G.ad)))) →
      W p G.l e R s m args below meth c H locs cells slots Q (F0 m pc ls (st.map (mj_v G.ad))))
    (B : Go mi d h0 pc1 lv1 st1 h pc2 lv2 st2 h2) : Go mi d h0 pc lv st h pc2 lv2 st2 h2 := by
  obtain ⟨b1, b2, b3⟩ := B
  refine ⟨b1, b2, fun G p e R s m args below meth c Q hF hX g1 g2 g3 g4 g5 g6 hQ H locs ls hR hl => ?_⟩
  exact A G p e R s m args below meth c Q _ _ H locs ls hF hX g3 g4 (Nat.le_trans (Nat.sub_le_sub_right b1 _) g5) (Nat.le_trans (Nat.sub_le_sub_right b2 _) g6) hR hl (fun ls1 hl1 => b3 G p e R s m args below meth c Q hF hX g1 g2 g3 g4 g5 g6 hQ H locs ls1 hR hl1)
theorem go_mmax {idx : Nat} {x y : Int32} (hd1 : 1 ≤ d) (hst : st.length ≤ 4) (hd : decode mi.2.1 pc = .ok (.invokestatic idx, 3)) (hl : Cond.methodLink mi.1.cls idx Lib.Math.max.name ∈ mj_tbl) (B : Go mi d h0 (pc + 3) lv (.int (mj_max x y) :: st) h pc2 lv2 st2 h2) : Go mi d h0 pc lv (.int y :: .int x :: st) h pc2 lv2 st2 h2 := by
  refine Go.one2 (fun G p e R s m args below meth c Q cells slots H locs ls hF hX g3 g4 g5 g6 hR hlv K => ?_) B
  have hts := hF.2.2.2.2.1
  refine va_mmax hF.1 hF.2.1 (by rw [hF.2.2.1]; exact hlv.1.symm) hF.2.2.2.1 (hts _ hl) (hts _ w_mxS) (hts _ w_mxI) (hts _ w_mxC) (Nat.le_trans hd1 g3) ?_ g5 g6 hd (K ls hlv)
  have := mj_rest (ad := G.ad) (m := m) (pc := pc) (ls := ls) (st0 := []) hst
  omega
theorem go_mmin {idx : Nat} {x y : Int32} (hd1 : 1 ≤ d) (hst : st.length ≤ 4) (hd : decode mi.2.1 pc = .ok (.invokestatic idx, 3)) (hl : Cond.methodLink mi.1.cls idx Lib.Math.min.name ∈ mj_tbl) (B : Go mi d h0 (pc + 3) lv (.int (mj_min x y) :: st) h pc2 lv2 st2 h2) : Go mi d h0 pc lv (.int y :: .int x :: st) h pc2 lv2 st2 h2 := by
  refine Go.one2 (fun G p e R s m args below meth c Q cells slots H locs ls hF hX g3 g4 g5 g6 hR hlv K => ?_) B
  have hts := hF.2.2.2.2.1
  refine va_mmin hF.1 hF.2.1 (by rw [hF.2.2.1]; exact hlv.1.symm) hF.2.2.2.1 (hts _ hl) (hts _ w_mnS) (hts _ w_mxI) (hts _ w_mnC) (Nat.le_trans hd1 g3) ?_ g5 g6 hd (K ls hlv)
  have := mj_rest (ad := G.ad) (m := m) (pc := pc) (ls := ls) (st0 := []) hst
  omega
end GO7
section RTE
variable {mi : MI} {d : Nat} {h0 : MH} {pc : Nat} {lv : List (Nat × Value)} {st : List Value} {h h1 : MH} {α : Type}
theorem rt_eq0 {r : MH} (e : some h1 = some r) (A : Rt mi d h0 pc lv st h none h1) : Rt mi d h0 pc lv st h none r := by cases e; exact A
theorem rt_eqW (f : α → Value) {x : α} {r : α × MH} (e : some (x, h1) = some r) (A : Rt mi d h0 pc lv st h (some (f x)) h1) : Rt mi d h0 pc lv st h (some (f r.1)) r.2 := by cases e; exact A
theorem rt_eqR (f : α → Value) {x r : α} (e : some x = some r) (A : Rt mi d h0 pc lv st h (some (f x)) h1) : Rt mi d h0 pc lv st h (some (f r)) h1 := by cases e; exact A
end RTE
