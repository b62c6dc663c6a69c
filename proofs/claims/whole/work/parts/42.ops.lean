/-! ===== the picture's operations, evaluated ===== -/
abbrev aI (n : Nat) (f : Nat → Int32) : MC := .inl (0, n, f)
abbrev oB (c : Nat) (fs : List Value) : MC := .inr (.inr (c, fs))
theorem up_get (h : MH) (a b : Nat) (c : MC) : (mj_up h a c).1 b = if b = a then c else h.1 b := rfl
theorem up_nx (h : MH) (a : Nat) (c : MC) : (mj_up h a c).2 = h.2 := rfl
theorem up_up (h : MH) (a : Nat) (c c' : MC) : mj_up (mj_up h a c) a c' = mj_up h a c' := by
  unfold mj_up
  congr 1
  funext j
  by_cases hj : j = a <;> simp [hj]
theorem up_cm (h : MH) {a b : Nat} (c c' : MC) (hab : a ≠ b) : mj_up (mj_up h a c) b c' = mj_up (mj_up h b c') a c := by
  unfold mj_up
  congr 1
  funext j
  by_cases hj : j = a
  · subst hj
    simp [hab]
  · by_cases hb : j = b <;> simp [hj, hb, Ne.symm hab]
theorem up_id (h : MH) (a : Nat) : mj_up h a (h.1 a) = h := by
  obtain ⟨f, q⟩ := h
  unfold mj_up
  congr 1
  funext j
  by_cases hj : j = a <;> simp [hj]
theorem upd_id (f : Nat → Int32) (k : Nat) : upd f k (f k) = f := by
  funext j
  by_cases hj : j = k <;> simp [upd, hj]
theorem ald_z {h : MH} {a t n : Nat} {f : Nat → Int32} (H : h.1 a = .inl (t, n, f)) {k : Int} (h1 : 0 ≤ k) (h2 : k < n) (h3 : n < 2147483648) : ald h (some a) t (zI k) = some (f k.toNat) := by
  have hc : (zI k).toNatClampNeg = k.toNat := zI_clamp h1 (by omega)
  have h0 : (0 : Int32) ≤ zI k := (zI_le (a := 0) (by omega) (by omega) (by omega) (by omega)).mpr h1
  simp only [ald, mj_arr, H, Option.bind_some, hc]
  rw [if_pos ⟨trivial, h0, by omega⟩]
theorem ast_z {h : MH} {a t n : Nat} {f : Nat → Int32} (H : h.1 a = .inl (t, n, f)) (ha : 3 ≤ a) {k : Int} (x : Int32) (h1 : 0 ≤ k) (h2 : k < n) (h3 : n < 2147483648) : ast h (some a) t (zI k) x = some (mj_up h a (.inl (t, n, upd f k.toNat x))) := by
  have hc : (zI k).toNatClampNeg = k.toNat := zI_clamp h1 (by omega)
  have h0 : (0 : Int32) ≤ zI k := (zI_le (a := 0) (by omega) (by omega) (by omega) (by omega)).mpr h1
  simp only [ast, mj_arr, H, Option.bind_some, hc]
  rw [if_pos ⟨trivial, ha, h0, by omega⟩]
  rfl
theorem ald_n {h : MH} {a t n : Nat} {f : Nat → Int32} (H : h.1 a = .inl (t, n, f)) (i : Int32) (k : Nat) (hi : i = zI (k : Int)) (h2 : k < n) (h3 : n < 2147483648) : ald h (some a) t i = some (f k) := by
  rw [hi, ald_z H (by omega) (by omega) h3, Int.toNat_natCast]
theorem ast_n {h : MH} {a t n : Nat} {f : Nat → Int32} (H : h.1 a = .inl (t, n, f)) (ha : 3 ≤ a) (i : Int32) (k : Nat) (x : Int32) (hi : i = zI (k : Int)) (h2 : k < n) (h3 : n < 2147483648) : ast h (some a) t i x = some (mj_up h a (.inl (t, n, upd f k x))) := by
  rw [hi, ast_z H ha x (by omega) (by omega) h3, Int.toNat_natCast]
theorem alen_i {h : MH} {a t n : Nat} {f : Nat → Int32} (H : h.1 a = .inl (t, n, f)) (ht : t < 2) : alen h (some a) = some (zI (n : Int)) := by
  simp only [alen, H]
  rw [if_pos ht]
  exact congrArg some (Int32.ofInt_eq_ofNat (n := n)).symm
theorem gfi_o {h : MH} {a c k : Nat} {fs : List Value} {x : Int32} {cs : List Nat} (H : h.1 a = oB c fs) (hk : fs[k]? = some (.int x)) (hc : cs.contains c = true) : gfi h (some a) cs k = some x := by
  simp [gfi, mj_get, mj_obj, H, hk, List.contains_iff_mem.mp hc, mj_int]
theorem gfr_o {h : MH} {a c k b : Nat} {fs : List Value} {cs : List Nat} (H : h.1 a = oB c fs) (hk : fs[k]? = some (.ref b)) (hc : cs.contains c = true) : gfr h (some a) cs k = some (some b) := by
  simp [gfr, mj_get, mj_obj, H, hk, List.contains_iff_mem.mp hc, mj_ref]
theorem pfv_o {h : MH} {a c k : Nat} {fs : List Value} {v : Value} {cs : List Nat} (H : h.1 a = oB c fs) (hk : k < fs.length) (hc : cs.contains c = true) : pfv h (some a) cs k v = some (mj_up h a (oB c (fs.set k v))) := by
  simp [pfv, mj_obj, H, hk, List.contains_iff_mem.mp hc]
theorem cls_o {h : MH} {a c : Nat} {v : Value} {fs : List Value} (H : h.1 a = oB c (v :: fs)) : cls h (some a) = some c := by
  simp [cls, mj_obj, H]
theorem onc_o {α : Type} {h : MH} {a c : Nat} {v : Value} {fs : List Value} {x : Option α} (H : h.1 a = oB c (v :: fs)) : onc h (some a) c x = x := by
  unfold onc
  rw [cls_o H, if_pos rfl]
/-! ===== the reference's geometry, on the 42 numbers r of a basin ===== -/
def rDraught (r : Nat → Int32) (less : Int32) : Int32 := if 0 ≤ r 2 + (if r 16 = 1 then r 3 else 0) - less then r 2 + (if r 16 = 1 then r 3 else 0) - less else 0
theorem s_M_draughtOf {h : MH} {a : Nat} {r : Nat → Int32} (H : h.1 a = aI 42 r) (less : Int32) : f_M_draughtOf (some a) less h = some (rDraught r less) := by
  unfold f_M_draughtOf rDraught
  rw [ald_n H 2 2 (by decide) (by decide) (by decide), ald_n H 16 16 (by decide) (by decide) (by decide), ald_n H 3 3 (by decide) (by decide) (by decide)]
  simp only [Option.bind_some, b_M_draughtOf_18]
  by_cases h1 : r 16 = 1
  · simp only [if_pos h1]
    split <;> rfl
  · simp only [if_neg h1]
    split <;> rfl
