/-! ===== from a place of a frame to its return ===== -/
def mj_rt (r : Option Value) : Instr := match r with
  | none => .return_
  | some (.int _) => .ireturn
  | some (.long _) => .lreturn
  | some _ => .areturn
/-- what is returned is of the method's type -/
def mj_rk (ret : Option FieldType) (r : Option Value) : Prop := match r with
  | none => ret = none
  | some (.int x) => ∃ ty, ret = some ty ∧ narrow ty (.int x) = .int x
  | some (.long _) => ret = some .long
  | some .null => ∃ nm, ret = some (.object nm)
  | some (.ref _) => ∃ nm, ret = some (.object nm)
  | _ => False
def Rt (mi : MI) (d : Nat) (h0 : MH) (pc : Nat) (lv : List (Nat × Value)) (st : List Value) (h : MH) (r : Option Value) (h2 : MH) : Prop :=
  ∃ (pc1 : Nat) (lv1 : List (Nat × Value)), decode mi.2.1 pc1 = .ok (mj_rt r, 1) ∧ mj_rk mi.2.2.2 r ∧ Go mi d h0 pc lv st h pc1 lv1 r.toList h2
section RT
variable {mi : MI} {d : Nat} {h0 : MH} {pc : Nat} {lv lv1 : List (Nat × Value)} {st st1 : List Value} {h h1 h2 : MH} {r : Option Value}
theorem rt_st {pc1 : Nat} (A : ∀ (pc2 : Nat) (lv2 : List (Nat × Value)), Go mi d h0 pc1 lv1 st1 h1 pc2 lv2 r.toList h2 → Go mi d h0 pc lv st h pc2 lv2 r.toList h2) (B : Rt mi d h0 pc1 lv1 st1 h1 r h2) : Rt mi d h0 pc lv st h r h2 := by
  obtain ⟨pc2, lv2, b1, b2, b3⟩ := B
  exact ⟨pc2, lv2, b1, b2, A pc2 lv2 b3⟩
/-- fewer locals, in any order -/
theorem go_sub {pc2 : Nat} {lv2 : List (Nat × Value)} {st2 : List Value} (ks : List Nat) (hp : lv_pick lv ks = lv1) (B : Go mi d h0 pc lv1 st h pc2 lv2 st2 h2) : Go mi d h0 pc lv st h pc2 lv2 st2 h2 := by
  subst hp
  refine Go.one (fun G p e R s m args below meth c Q cells slots H locs ls hF hX g3 g4 hR hl K => ?_) B
  refine K ls (lv_sub hl ks ?_)
  unfold lv_pick mj_l
  rw [List.map_filterMap]
  congr 1
  funext k
  rw [List.getElem?_map]
theorem rt_sub (ks : List Nat) (hp : lv_pick lv ks = lv1) (B : Rt mi d h0 pc lv1 st h r h2) : Rt mi d h0 pc lv st h r h2 := rt_st (fun _ _ B => go_sub ks hp B) B
theorem rt_int {x : Int32} (hd : decode mi.2.1 pc = .ok (.ireturn, 1)) (hr : mi.2.2.2 = some .int) : Rt mi d h0 pc lv [.int x] h (some (.int x)) h := ⟨pc, lv, hd, ⟨.int, hr, rfl⟩, Go.rf⟩
theorem rt_bool {x : Int32} (hd : decode mi.2.1 pc = .ok (.ireturn, 1)) (hr : mi.2.2.2 = some .boolean) (hz : x &&& 1 = x) : Rt mi d h0 pc lv [.int x] h (some (.int x)) h := ⟨pc, lv, hd, ⟨.boolean, hr, congrArg Value.int hz⟩, Go.rf⟩
theorem rt_long {x : Int64} (hd : decode mi.2.1 pc = .ok (.lreturn, 1)) (hr : mi.2.2.2 = some .long) : Rt mi d h0 pc lv [.long x] h (some (.long x)) h := ⟨pc, lv, hd, hr, Go.rf⟩
theorem rt_ref {o : Option Nat} {nm : String} (hd : decode mi.2.1 pc = .ok (.areturn, 1)) (hr : mi.2.2.2 = some (.object nm)) : Rt mi d h0 pc lv [va_rf o] h (some (va_rf o)) h := by
  cases o <;> exact ⟨pc, lv, hd, ⟨nm, hr⟩, Go.rf⟩
theorem rt_void (hd : decode mi.2.1 pc = .ok (.return_, 1)) (hr : mi.2.2.2 = none) : Rt mi d h0 pc lv [] h none h := ⟨pc, lv, hd, hr, Go.rf⟩
end RT
theorem Mt.rt {mi : MI} {d : Nat} {av : List Value} {h h1 : MH} {r : Option Value} {lv : List (Nat × Value)} (hy : plainName mi.1.cls = true) (hlv : lv_args 0 av = lv) (hn : (av.map Value.category).sum ≤ mi.2.2.1) (A : Rt mi d h 0 lv [] h r h1) : Mt mi d av h r h1 := by
  obtain ⟨pc1, lv1, hd, hk, A⟩ := A
  cases r with
  | none => exact Mt.ofv hy hlv hn hk hd A
  | some v =>
    cases v with
    | int x =>
      obtain ⟨ty, hr, hz⟩ := hk
      exact Mt.ofi hy hlv hn hr hz hd A
    | long x => exact Mt.ofl hy hlv hn hk hd A
    | null =>
      obtain ⟨nm, hr⟩ := hk
      exact Mt.ofr (o := none) hy hlv hn hr hd A
    | ref a =>
      obtain ⟨nm, hr⟩ := hk
      exact Mt.ofr (o := some a) hy hlv hn hr hd A
    | float x => cases hk
    | double x => cases hk
    | retAddr x => cases hk
/-- a receiver's class, asked ahead of a call -/
def onc {α : Type} (h : MH) (o : Option Nat) (c : Nat) (x : Option α) : Option α := if cls h o = some c then x else none
theorem onc_spec {α : Type} {h : MH} {o : Option Nat} {c : Nat} {x : Option α} {y : α} (e : onc h o c x = some y) : cls h o = some c ∧ x = some y := by
  unfold onc at e
  by_cases hc : cls h o = some c
  · rw [if_pos hc] at e; exact ⟨hc, e⟩
  · rw [if_neg hc] at e; cases e
theorem mj_mem_tbl {w : Cond} (k : Nat) (h : lw_tbl[k]? = some w) (hg : goodWord w = true) : w ∈ mj_tbl := List.mem_filter.mpr ⟨List.mem_of_getElem? h, hg⟩
theorem mj_mem_bad {w : Cond} (k : Nat) (h : lw_tbl[k]? = some w) (hg : mj_kind w = true) : w ∈ mj_bad := List.mem_filter.mpr ⟨List.mem_of_getElem? h, hg⟩
