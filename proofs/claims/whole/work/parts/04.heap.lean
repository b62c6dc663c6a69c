/-! ===== the picture's own operations ===== -/
def mj_up (h : MH) (a : Nat) (c : MC) : MH := (fun j => if j = a then c else h.1 j, h.2)
def mj_push (h : MH) (c : MC) (n : Nat) : MH := (fun j => if j = h.2.1 then c else h.1 j, h.2.1 + 1, h.2.2 + n)
def mj_obj (h : MH) (o : Option Nat) : Option (Nat × List Value) := match o with
  | none => none
  | some a => match h.1 a with
    | .inr (.inr q) => some q
    | _ => none
def mj_arr (h : MH) (o : Option Nat) : Option (Nat × Nat × (Nat → Int32)) := match o with
  | none => none
  | some a => match h.1 a with
    | .inl q => some q
    | _ => none
def mj_arq (h : MH) (o : Option Nat) : Option (Nat × Nat × (Nat → Option Nat)) := match o with
  | none => none
  | some a => match h.1 a with
    | .inr (.inl q) => some q
    | _ => none
def mj_int (v : Value) : Option Int32 := match v with
  | .int x => some x
  | _ => none
def mj_ref (v : Value) : Option (Option Nat) := match v with
  | .ref a => some (some a)
  | .null => some none
  | _ => none
theorem mj_ref_eq {v : Value} {o : Option Nat} (h : mj_ref v = some o) : v = va_rf o := by
  cases v <;> simp [mj_ref] at h <;> subst h <;> rfl
theorem mj_int_eq {v : Value} {x : Int32} (h : mj_int v = some x) : v = .int x := by
  cases v <;> simp [mj_int] at h
  rw [h]
/-- a field of an object of one of the classes cs -/
def mj_get (h : MH) (o : Option Nat) (cs : List Nat) (k : Nat) : Option Value := (mj_obj h o).bind fun q => if cs.contains q.1 then q.2[k]? else none
def gfi (h : MH) (o : Option Nat) (cs : List Nat) (k : Nat) : Option Int32 := (mj_get h o cs k).bind mj_int
def gfr (h : MH) (o : Option Nat) (cs : List Nat) (k : Nat) : Option (Option Nat) := (mj_get h o cs k).bind mj_ref
def pfv (h : MH) (o : Option Nat) (cs : List Nat) (k : Nat) (v : Value) : Option MH := (mj_obj h o).bind fun q => if cs.contains q.1 ∧ k < q.2.length then some (mj_up h (o.getD 0) (.inr (.inr (q.1, q.2.set k v)))) else none
/-- arrays of whole numbers, of booleans (t = 0, 1); of references (t = 2, 3) -/
def ald (h : MH) (o : Option Nat) (t : Nat) (i : Int32) : Option Int32 := (mj_arr h o).bind fun q => if q.1 = t ∧ 0 ≤ i ∧ i.toNatClampNeg < q.2.1 then some (q.2.2 i.toNatClampNeg) else none
def ast (h : MH) (o : Option Nat) (t : Nat) (i x : Int32) : Option MH := (mj_arr h o).bind fun q => if q.1 = t ∧ 3 ≤ o.getD 0 ∧ 0 ≤ i ∧ i.toNatClampNeg < q.2.1 then some (mj_up h (o.getD 0) (.inl (t, q.2.1, upd q.2.2 i.toNatClampNeg x))) else none
def alen (h : MH) (o : Option Nat) : Option Int32 := match o with
  | none => none
  | some a => match h.1 a with
    | .inl q => if q.1 < 2 then some (Int32.ofNat q.2.1) else none
    | .inr (.inl q) => if q.1 = 2 ∨ q.1 = 3 then some (Int32.ofNat q.2.1) else none
    | _ => none
def qld (h : MH) (o : Option Nat) (t : Nat) (i : Int32) : Option (Option Nat) := (mj_arq h o).bind fun q => if q.1 = t ∧ 0 ≤ i ∧ i.toNatClampNeg < q.2.1 then some (q.2.2 i.toNatClampNeg) else none
def mj_clo (h : MH) (o : Option Nat) (cs : List Nat) : Bool := match mj_obj h o with
  | some q => cs.contains q.1 && decide (q.2 ≠ [])
  | none => o.isNone
def qst (h : MH) (o : Option Nat) (t : Nat) (cs : List Nat) (i : Int32) (v : Option Nat) : Option MH := (mj_arq h o).bind fun q => if q.1 = t ∧ 0 ≤ i ∧ i.toNatClampNeg < q.2.1 ∧ mj_clo h v cs = true then some (mj_up h (o.getD 0) (.inr (.inl (t, q.2.1, va_up q.2.2 i.toNatClampNeg v)))) else none
def newo (h : MH) (ci : Nat) (fs : List Value) : MH := mj_push h (.inr (.inr (ci, fs))) fs.length
def newa (h : MH) (t n : Nat) : MH := mj_push h (.inl (t, n, fun _ => 0)) n
def newq (h : MH) (t n : Nat) : MH := mj_push h (.inr (.inl (t, n, fun _ => none))) n
def cpy (h : MH) (o : Option Nat) (sp dp n : Int32) : Option MH := (mj_arr h o).bind fun q => if q.1 = 0 ∧ 3 ≤ o.getD 0 ∧ 0 ≤ sp ∧ 0 ≤ dp ∧ 0 ≤ n ∧ sp.toNatClampNeg + n.toNatClampNeg ≤ q.2.1 ∧ dp.toNatClampNeg + n.toNatClampNeg ≤ q.2.1 then some (mj_up h (o.getD 0) (.inl (0, q.2.1, va_cpy q.2.2 q.2.2 sp.toNatClampNeg dp.toNatClampNeg n.toNatClampNeg))) else none
/-- a class's field k: who declares it, its name, its type, whether final -/
def mj_fd (c k : Nat) : Option (String × String × String × Bool) := match mj_cl[c]? with
  | some q => if k < q.2.2 then some (q.2.1 k) else none
  | none => none
theorem mj_fd_spec {c k : Nat} {f : String × String × String × Bool} (h : mj_fd c k = some f) : ∃ q : vw_C, mj_cl[c]? = some q ∧ k < q.2.2 ∧ q.2.1 k = f := by
  unfold mj_fd at h
  cases hq : mj_cl[c]? with
  | none => rw [hq] at h; cases h
  | some q =>
    rw [hq] at h
    dsimp only at h
    by_cases hk : k < q.2.2
    · rw [if_pos hk] at h
      exact ⟨q, rfl, hk, Option.some.inj h⟩
    · rw [if_neg hk] at h; cases h
theorem mj_in {w : Cond} (h : w ∈ lw_tbl) (hg : goodWord w = true) : w ∈ mj_tbl := List.mem_filter.mpr ⟨h, hg⟩
theorem mj_lays_good (C : String) (T : u_T) (k : Nat) : goodWord (u_lay C T k) = true := by
  unfold u_lay
  split <;> rfl
theorem mj_cl_in {c : Nat} {q : vw_C} (h : mj_cl[c]? = some q) : ∀ w ∈ u_ws q.1 q.2.1 q.2.2, w ∈ mj_tbl := fun w hw => by
  refine mj_in ((mj_oks q (List.mem_of_getElem? h)).1 w hw) ?_
  obtain ⟨k, -, rfl⟩ := List.mem_map.mp hw
  exact mj_lays_good _ _ _
/-! ===== what the picture says of the heap ===== -/
theorem mj_ad_ne {G : CX} {s : State} (hX : mj_Fx G s) {i j : Nat} (hi : 3 ≤ i) (hij : j ≠ i) : G.ad j ≠ G.ad i := by
  intro e
  have h1 := hX.2.1 i hi
  by_cases hj : 3 ≤ j
  · have h2 := hX.2.1 j hj
    omega
  · have h2 := hX.2.2.1 j (by omega)
    omega
theorem mj_obj_at {G : CX} {s : State} {h : MH} {H : Heap} {locs : List Loc} (hR : mj_Rep G s h H locs) {a : Nat} {c : Nat} {fs : List Value} (hq : h.1 a = .inr (.inr (c, fs))) (hne : fs ≠ []) : 3 ≤ a ∧ a < h.2.1 ∧ va_at G.D mj_cl (G.ad a, .inr (c, fs.map (mj_v G.ad))) H := by
  obtain ⟨r1, r2, r3, r4, r5, r6, r7, r8⟩ := hR
  have h3 : 3 ≤ a := by
    rcases Nat.lt_or_ge a 3 with hlt | hge
    · obtain ⟨n, f, e, -⟩ := r5 a hlt
      rw [hq] at e
      cases e
    · exact hge
  have hlt : a < h.2.1 := by
    rcases Nat.lt_or_ge a h.2.1 with hlt | hge
    · exact hlt
    · have e := r4 a hge
      rw [hq] at e
      unfold mj_nil at e
      cases e
      exact absurd rfl hne
  refine ⟨h3, hlt, ?_⟩
  have h4 := r3 a h3 hlt
  rw [hq] at h4
  exact h4
theorem mj_arq_at {G : CX} {s : State} {h : MH} {H : Heap} {locs : List Loc} (hR : mj_Rep G s h H locs) {a : Nat} {t n : Nat} {f : Nat → Option Nat} (hq : h.1 a = .inr (.inl (t, n, f))) : 3 ≤ a ∧ a < h.2.1 ∧ H[G.ad a]? = some (vp_cell (G.cA t) (n, .inr (.inr (.inr (.inr (fun j => (f j).map G.ad)))))) := by
  obtain ⟨r1, r2, r3, r4, r5, r6, r7, r8⟩ := hR
  have h3 : 3 ≤ a := by
    rcases Nat.lt_or_ge a 3 with hlt | hge
    · obtain ⟨n, f, e, -⟩ := r5 a hlt
      rw [hq] at e
      cases e
    · exact hge
  have hlt : a < h.2.1 := by
    rcases Nat.lt_or_ge a h.2.1 with hlt | hge
    · exact hlt
    · have e := r4 a hge
      rw [hq] at e
      unfold mj_nil at e
      cases e
  refine ⟨h3, hlt, ?_⟩
  have h4 := r3 a h3 hlt
  rw [hq] at h4
  exact h4
theorem mj_arr_at {G : CX} {s : State} {h : MH} {H : Heap} {locs : List Loc} (hR : mj_Rep G s h H locs) {a : Nat} {t n : Nat} {f : Nat → Int32} (hq : h.1 a = .inl (t, n, f)) (h3 : 3 ≤ a) : a < h.2.1 ∧ H[G.ad a]? = some (vp_cell (G.cA t) (n, .inl f)) := by
  obtain ⟨r1, r2, r3, r4, r5, r6, r7, r8⟩ := hR
  have hlt : a < h.2.1 := by
    rcases Nat.lt_or_ge a h.2.1 with hlt | hge
    · exact hlt
    · have e := r4 a hge
      rw [hq] at e
      unfold mj_nil at e
      cases e
  refine ⟨hlt, ?_⟩
  have h4 := r3 a h3 hlt
  rw [hq] at h4
  exact h4
theorem mj_Rep.put {G : CX} {s : State} {h : MH} {H H1 : Heap} {locs : List Loc} (hR : mj_Rep G s h H locs) (hX : mj_Fx G s) {a : Nat} {c : MC} {locs1 : List Loc} (h3 : 3 ≤ a) (hlt : a < h.2.1) (hc : va_at G.D mj_cl (G.ad a, mj_e G c) H1) (hz : H1.size = H.size) (ho : ∀ q, q ≠ G.ad a → H1[q]? = H[q]?) (hL : ∀ q ∈ locs1, q.base = G.ad a) : mj_Rep G s (mj_up h a c) H1 (locs ++ locs1) := by
  obtain ⟨r1, r2, r3, r4, r5, r6, r7, r8, r9⟩ := hR
  have hb : G.base ≤ G.ad a := by have := hX.2.1 a h3; omega
  refine ⟨by rw [hz]; exact r1, r2, fun i h1 h2 => ?_, fun i hi => ?_, fun i hi => ?_, fun i hi => ?_, fun q hq => ?_, r8, fun q hq => ?_⟩
  · by_cases hi : i = a
    · subst hi
      simpa [mj_up] using hc
    · have := (r3 i h1 h2).kept (ho _ (mj_ad_ne hX h3 hi))
      simpa [mj_up, hi] using this
  · have hne : i ≠ a := by have : h.2.1 ≤ i := hi; omega
    show (if i = a then c else h.1 i) = mj_nil
    rw [if_neg hne]
    exact r4 i hi
  · obtain ⟨n, f, e1, e2⟩ := r5 i hi
    have hne : i ≠ a := by omega
    refine ⟨n, f, ?_, e2.kept (ho _ (mj_ad_ne hX h3 hne))⟩
    show (if i = a then c else h.1 i) = _
    rw [if_neg hne]
    exact e1
  · exact (r6 i hi).kept (fun q _ h2 => ho q (fun e => h2 (by rw [e]; exact hb)))
  · rw [ho q (by omega)]
    exact r7 q hq
  · rcases List.mem_append.mp hq with hq | hq
    · exact r9 q hq
    · rw [hL q hq]; exact hb
theorem mj_Rep.push {G : CX} {s : State} {h : MH} {H H1 : Heap} {locs : List Loc} (hR : mj_Rep G s h H locs) (hX : mj_Fx G s) {c : MC} {n : Nat} (hc : va_at G.D mj_cl (H.size, mj_e G c) H1) (hz : H1.size = H.size + 1) (ho : ∀ q, q < H.size → H1[q]? = H[q]?) : mj_Rep G s (mj_push h c n) H1 locs ∧ G.ad h.2.1 = H.size := by
  obtain ⟨r1, r2, r3, r4, r5, r6, r7, r8, r9⟩ := hR
  have had : G.ad h.2.1 = H.size := by have := hX.2.1 h.2.1 r2; omega
  refine ⟨⟨?_, Nat.le_succ_of_le r2, fun i h1 h2 => ?_, fun i hi => ?_, fun i hi => ?_, fun i hi => ?_, fun q hq => ?_, r8, r9⟩, had⟩
  · show H1.size + 3 = G.base + (h.2.1 + 1)
    omega
  · by_cases hi : i = h.2.1
    · subst hi
      have := hc
      rw [← had] at this
      simpa [mj_push] using this
    · have h2' : i < h.2.1 := by have h2'' : i < h.2.1 + 1 := h2; omega
      have := (r3 i h1 h2').kept (ho _ ((r3 i h1 h2').lt))
      simpa [mj_push, hi] using this
  · have hi' : h.2.1 + 1 ≤ i := hi
    show (if i = h.2.1 then c else h.1 i) = mj_nil
    rw [if_neg (by omega)]
    exact r4 i (by omega)
  · obtain ⟨n, f, e1, e2⟩ := r5 i hi
    refine ⟨n, f, ?_, e2.kept (ho _ ?_)⟩
    · show (if i = h.2.1 then c else h.1 i) = _
      rw [if_neg (by omega)]
      exact e1
    · obtain ⟨scr, g1, -⟩ := e2
      exact (Array.getElem?_eq_some_iff.mp g1).1
  · exact (r6 i hi).kept (fun q h2 _ => ho q h2)
  · rw [ho q (by omega)]
    exact r7 q hq
