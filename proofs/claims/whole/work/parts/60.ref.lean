/-! ===== the reference's object on the heap ===== -/
def szM (a : Nat) : Nat := match a with
  | 1 => 120
  | 2 => 8
  | 3 => 8
  | 4 => 320
  | 5 => 42
  | 6 => 42
  | 7 => 42
  | 8 => 1008
  | 9 => 84
  | 10 => 2
  | 11 => 16
  | 12 => 576
  | _ => 2880
def tyM (a : Nat) : Nat := match a with
  | 10 => 1
  | _ => 0
def Mr (h : MH) (P : Nat → Nat → Int) : Prop := h.1 34 = mO (P 0) ∧ ∀ a, 1 ≤ a → a ≤ 13 → h.1 (34 + a) = .inl (tyM a, szM a, fZ (P a))
/-- between lo and hi alone something has changed -/
def Ch (lo hi : Nat) (h h' : MH) : Prop := h'.2 = h.2 ∧ ∀ j, (j < lo ∨ hi < j) → h'.1 j = h.1 j
theorem Ch_0 (lo hi : Nat) (h : MH) : Ch lo hi h h := ⟨rfl, fun _ _ => rfl⟩
theorem Ch.tr {lo hi : Nat} {h h1 h2 : MH} (a : Ch lo hi h h1) (b : Ch lo hi h1 h2) : Ch lo hi h h2 := ⟨b.1.trans a.1, fun j hj => (b.2 j hj).trans (a.2 j hj)⟩
theorem Ch.w {lo hi lo' hi' : Nat} {h h1 : MH} (a : Ch lo hi h h1) (q1 : lo' ≤ lo) (q2 : hi ≤ hi') : Ch lo' hi' h h1 := ⟨a.1, fun j hj => a.2 j (by omega)⟩
theorem Ch_up {lo hi : Nat} (h : MH) {a : Nat} (c : MC) (h1 : lo ≤ a) (h2 : a ≤ hi) : Ch lo hi h (mj_up h a c) := ⟨rfl, fun j hj => by rw [up_get, if_neg (by omega)]⟩
theorem Sm.c {h h1 : MH} (a : Sm h h1) : Ch 17 25 h h1 := a
theorem Ch.es {lo hi : Nat} {h h' : MH} (a : Ch lo hi h h') (hl : 2 ≤ lo) (E : Es h) : Es h' := ⟨(a.2 0 (by omega)).trans E.1, (a.2 1 (by omega)).trans E.2⟩
theorem Mr.fr {lo hi : Nat} {h h' : MH} {P : Nat → Nat → Int} (M : Mr h P) (c : Ch lo hi h h') (hh : hi < 34 ∨ 47 < lo) : Mr h' P := ⟨(c.2 34 (by omega)).trans M.1, fun a a1 a2 => (c.2 (34 + a) (by omega)).trans (M.2 a a1 a2)⟩
section
variable {h : MH} {P : Nat → Nat → Int}
theorem mr_on (M : Mr h P) {α : Type} (x : Option α) : onc h (some 34) 11 x = x := onc_o M.1
theorem mg1 (M : Mr h P) : gfr h (some 34) [11] 1 = some (some 35) := gfr_o M.1 rfl rfl
theorem mg10 (M : Mr h P) : gfr h (some 34) [11] 10 = some (some 36) := gfr_o M.1 rfl rfl
theorem mg11 (M : Mr h P) : gfr h (some 34) [11] 11 = some (some 37) := gfr_o M.1 rfl rfl
theorem mg12 (M : Mr h P) : gfr h (some 34) [11] 12 = some (some 38) := gfr_o M.1 rfl rfl
theorem mg14 (M : Mr h P) : gfr h (some 34) [11] 14 = some (some 39) := gfr_o M.1 rfl rfl
theorem mg15 (M : Mr h P) : gfr h (some 34) [11] 15 = some (some 40) := gfr_o M.1 rfl rfl
theorem mg16 (M : Mr h P) : gfr h (some 34) [11] 16 = some (some 41) := gfr_o M.1 rfl rfl
theorem mg17 (M : Mr h P) : gfr h (some 34) [11] 17 = some (some 42) := gfr_o M.1 rfl rfl
theorem mg19 (M : Mr h P) : gfr h (some 34) [11] 19 = some (some 43) := gfr_o M.1 rfl rfl
theorem mg20 (M : Mr h P) : gfr h (some 34) [11] 20 = some (some 44) := gfr_o M.1 rfl rfl
theorem mg21 (M : Mr h P) : gfr h (some 34) [11] 21 = some (some 45) := gfr_o M.1 rfl rfl
theorem mg23 (M : Mr h P) : gfr h (some 34) [11] 23 = some (some 46) := gfr_o M.1 rfl rfl
theorem mg24 (M : Mr h P) : gfr h (some 34) [11] 24 = some (some 47) := gfr_o M.1 rfl rfl
theorem mf2 (M : Mr h P) : gfi h (some 34) [11] 2 = some (zI (P 0 2)) := gfi_o M.1 rfl rfl
theorem mf3 (M : Mr h P) : gfi h (some 34) [11] 3 = some (zI (P 0 3)) := gfi_o M.1 rfl rfl
theorem mf4 (M : Mr h P) : gfi h (some 34) [11] 4 = some (zI (P 0 4)) := gfi_o M.1 rfl rfl
theorem mf5 (M : Mr h P) : gfi h (some 34) [11] 5 = some (zI (P 0 5)) := gfi_o M.1 rfl rfl
theorem mf6 (M : Mr h P) : gfi h (some 34) [11] 6 = some (zI (P 0 6)) := gfi_o M.1 rfl rfl
theorem mf7 (M : Mr h P) : gfi h (some 34) [11] 7 = some (zI (P 0 7)) := gfi_o M.1 rfl rfl
theorem mf8 (M : Mr h P) : gfi h (some 34) [11] 8 = some (zI (P 0 8)) := gfi_o M.1 rfl rfl
theorem mf9 (M : Mr h P) : gfi h (some 34) [11] 9 = some (zI (P 0 9)) := gfi_o M.1 rfl rfl
theorem mf13 (M : Mr h P) : gfi h (some 34) [11] 13 = some (zI (P 0 13)) := gfi_o M.1 rfl rfl
theorem mf18 (M : Mr h P) : gfi h (some 34) [11] 18 = some (zI (P 0 18)) := gfi_o M.1 rfl rfl
theorem mf22 (M : Mr h P) : gfi h (some 34) [11] 22 = some (zI (P 0 22)) := gfi_o M.1 rfl rfl
theorem szM_r (a : Nat) : szM a < 2147483648 := by unfold szM; split <;> omega
theorem mr_ld (M : Mr h P) {c : Nat} (a : Nat) (hc : c = 34 + a) (h1 : 1 ≤ a) (h2 : a ≤ 13) {k : Int} (k1 : 0 ≤ k) (k2 : k < szM a) : ald h (some c) (tyM a) (zI k) = some (zI (P a k.toNat)) := by
  subst hc
  exact ald_z (M.2 a h1 h2) k1 k2 (szM_r a)
theorem mr_ar (M : Mr h P) {c : Nat} (a : Nat) (hc : c = 34 + a) (h1 : 1 ≤ a) (h2 : a ≤ 13) (f : Nat → Int) : Ch 34 47 h (mj_up h c (.inl (tyM a, szM a, fZ f))) ∧ Mr (mj_up h c (.inl (tyM a, szM a, fZ f))) (upR P a f) := by
  subst hc
  refine ⟨Ch_up h _ (by omega) (by omega), ⟨?_, fun b b1 b2 => ?_⟩⟩
  · rw [up_get, if_neg (by omega)]
    unfold upR
    rw [if_neg (by omega)]
    exact M.1
  · rw [up_get]
    by_cases e : b = a
    · rw [if_pos (by omega), e]
      unfold upR
      rw [if_pos rfl]
    · rw [if_neg (by omega)]
      unfold upR
      rw [if_neg e]
      exact M.2 b b1 b2
theorem mr_st (M : Mr h P) {c : Nat} (a : Nat) (hc : c = 34 + a) (h1 : 1 ≤ a) (h2 : a ≤ 13) {k : Int} (x : Int) (k1 : 0 ≤ k) (k2 : k < szM a) : ∃ h', ast h (some c) (tyM a) (zI k) (zI x) = some h' ∧ Ch 34 47 h h' ∧ Mr h' (upR P a (upI (P a) k.toNat x)) := by
  obtain ⟨e1, e2⟩ := mr_ar M a hc h1 h2 (upI (P a) k.toNat x)
  refine ⟨_, ?_, e1, e2⟩
  subst hc
  rw [ast_z (M.2 a h1 h2) (by omega) (zI x) k1 k2 (szM_r a), upd_Z]
/-- the reference's own numbers -/
def mK (j : Nat) : Bool := j == 0 || (j == 2 || (j == 3 || (j == 4 || (j == 5 || (j == 6 || (j == 7 || (j == 8 || (j == 9 || (j == 13 || (j == 18 || j == 22))))))))))
theorem mr_pf (M : Mr h P) (j : Nat) (hj : mK j = true) (x : Int) : ∃ h', pfv h (some 34) [11] j (.int (zI x)) = some h' ∧ Ch 34 47 h h' ∧ Mr h' (upR P 0 (upI (P 0) j x)) := by
  have hj' : j = 0 ∨ j = 2 ∨ j = 3 ∨ j = 4 ∨ j = 5 ∨ j = 6 ∨ j = 7 ∨ j = 8 ∨ j = 9 ∨ j = 13 ∨ j = 18 ∨ j = 22 := by
    unfold mK at hj
    simpa using hj
  refine ⟨mj_up h 34 (mO (upI (P 0) j x)), ?_, Ch_up h _ (by omega) (by omega), ⟨?_, fun b b1 b2 => ?_⟩⟩
  · rw [pfv_o M.1 (by show j < 25; omega) rfl]
    congr 3
    rcases hj' with rfl | rfl | rfl | rfl | rfl | rfl | rfl | rfl | rfl | rfl | rfl | rfl <;> rfl
  · rw [up_get, if_pos rfl]
    rfl
  · rw [up_get, if_neg (by omega)]
    unfold upR
    rw [if_neg (by omega)]
    exact M.2 b b1 b2
/-- a list of the reference is another -/
theorem Mr.cg {Q : Nat → Nat → Int} (M : Mr h P) (hq : ∀ j, j ≤ 13 → P j = Q j) : Mr h Q := by
  refine ⟨by rw [← hq 0 (by omega)]; exact M.1, fun a a1 a2 => ?_⟩
  rw [← hq a a2]
  exact M.2 a a1 a2
/-- 42 numbers that are no more -/
def Wz (v : Nat → Int) : Prop := ∀ k, 42 ≤ k → v k = 0
theorem s_copies {F : Nat} {c c' : Nat} (a b : Nat) (hc : c = 34 + a) (hc' : c' = 34 + b) (ha : 5 ≤ a ∧ a ≤ 7) (hb : 5 ≤ b ∧ b ≤ 7) (hab : a ≠ b) : ∀ (d k fu : Nat) (h : MH) (P : Nat → Nat → Int), k + d = 42 → d < fu → Mr h P → Wz (P a) → Wz (P b) → (∀ j, j < k → P b j = P a j) →
    ∃ h', b_M_copies_2 F fu (some c) (some c') (zI (k : Int)) h = some h' ∧ Ch 34 47 h h' ∧ Mr h' (upR P b (P a)) := by
  have ta : tyM a = 0 ∧ szM a = 42 := by rcases (show a = 5 ∨ a = 6 ∨ a = 7 by omega) with rfl | rfl | rfl <;> exact ⟨rfl, rfl⟩
  have tb : tyM b = 0 ∧ szM b = 42 := by rcases (show b = 5 ∨ b = 6 ∨ b = 7 by omega) with rfl | rfl | rfl <;> exact ⟨rfl, rfl⟩
  intro d
  induction d with
  | zero =>
    intro k fu h P hk hf M za zb hj
    obtain ⟨fu, rfl⟩ : ∃ q, fu = q + 1 := ⟨fu - 1, by omega⟩
    refine ⟨h, ?_, Ch_0 _ _ h, M.cg (fun j _ => ?_)⟩
    · unfold b_M_copies_2
      simp (disch := omega) only [l42, zI_le]
      rw [if_pos (by omega)]
    · unfold upR
      by_cases e : j = b
      · rw [if_pos e, e]
        funext q
        by_cases e2 : q < 42
        · exact hj q (by omega)
        · rw [za q (by omega), zb q (by omega)]
      · rw [if_neg e]
  | succ d ih =>
    intro k fu h P hk hf M za zb hj
    obtain ⟨fu, rfl⟩ : ∃ q, fu = q + 1 := ⟨fu - 1, by omega⟩
    have hl := mr_ld M a hc (by omega) (by omega) (k := (k : Int)) (by omega) (by rw [ta.2]; omega)
    obtain ⟨h1, e1, m1, M1⟩ := mr_st M b hc' (by omega) (by omega) (k := (k : Int)) (P a k) (by omega) (by rw [tb.2]; omega)
    rw [ta.1, Int.toNat_natCast] at hl
    rw [tb.1] at e1
    rw [Int.toNat_natCast] at M1
    have pa : (upR P b (upI (P b) k (P a k))) a = P a := by unfold upR; rw [if_neg hab]
    have pb : (upR P b (upI (P b) k (P a k))) b = upI (P b) k (P a k) := by unfold upR; rw [if_pos rfl]
    obtain ⟨h2, e2, m2, M2⟩ := ih (k + 1) fu h1 _ (by omega) (by omega) M1 (by rw [pa]; exact za) (by
      rw [pb]
      intro q hq
      rw [upI_n _ _ (by omega)]
      exact zb q hq) (fun j hj2 => by
      rw [pa, pb]
      by_cases e : j = k
      · rw [e, upI_s]
      · rw [upI_n _ _ e]; exact hj j (by omega))
    refine ⟨h2, ?_, m1.tr m2, M2.cg (fun j _ => ?_)⟩
    · unfold b_M_copies_2
      simp (disch := omega) only [l42, zI_le]
      rw [if_neg (by omega), hl, bd, e1, bd, l1, zI_add]
      exact e2
    · rw [pa]
      unfold upR
      by_cases e : j = b
      · rw [if_pos e, if_pos e]
      · rw [if_neg e, if_neg e, if_neg e]
theorem r_copies {F : Nat} (hF : 100 ≤ F) {c c' : Nat} (a b : Nat) (hc : c = 34 + a) (hc' : c' = 34 + b) (ha : 5 ≤ a ∧ a ≤ 7) (hb : 5 ≤ b ∧ b ≤ 7) (hab : a ≠ b) (M : Mr h P) (za : Wz (P a)) (zb : Wz (P b)) : ∃ h', f_M_copies F (some c) (some c') h = some h' ∧ Ch 34 47 h h' ∧ Mr h' (upR P b (P a)) := by
  unfold f_M_copies
  rw [l0]
  exact s_copies a b hc hc' ha hb hab 42 0 F h P rfl (by omega) M za zb (fun j hj => by omega)
end
