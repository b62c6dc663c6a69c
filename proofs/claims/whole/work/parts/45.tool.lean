/-! ===== arrays and basins whose numbers are Ints ===== -/
def upI (f : Nat → Int) (k : Nat) (x : Int) : Nat → Int := fun j => if j = k then x else f j
theorem upI_s (f : Nat → Int) (k : Nat) (x : Int) : upI f k x k = x := by unfold upI; rw [if_pos rfl]
theorem upI_n (f : Nat → Int) {k j : Nat} (x : Int) (h : j ≠ k) : upI f k x j = f j := by unfold upI; rw [if_neg h]
theorem upI_upI (f : Nat → Int) (k : Nat) (x y : Int) : upI (upI f k x) k y = upI f k y := by
  funext j
  unfold upI
  by_cases h : j = k <;> simp [h]
theorem upI_id (f : Nat → Int) (k : Nat) : upI f k (f k) = f := by
  funext j
  unfold upI
  by_cases h : j = k <;> simp [h]
abbrev fZ (f : Nat → Int) : Nat → Int32 := fun j => zI (f j)
abbrev aZ (n : Nat) (f : Nat → Int) : MC := aI n (fZ f)
theorem upd_Z (f : Nat → Int) (k : Nat) (x : Int) : upd (fZ f) k (zI x) = fZ (upI f k x) := by
  funext j
  unfold upd fZ upI
  by_cases h : j = k <;> simp [h]
/-- the numbers of the text, as Ints -/
theorem l0 : (0 : Int32) = zI 0 := rfl
theorem l1 : (1 : Int32) = zI 1 := rfl
theorem l2 : (2 : Int32) = zI 2 := rfl
theorem l3 : (3 : Int32) = zI 3 := rfl
theorem l4 : (4 : Int32) = zI 4 := rfl
theorem l5 : (5 : Int32) = zI 5 := rfl
theorem l6 : (6 : Int32) = zI 6 := rfl
theorem l7 : (7 : Int32) = zI 7 := rfl
theorem l8 : (8 : Int32) = zI 8 := rfl
theorem l9 : (9 : Int32) = zI 9 := rfl
theorem l10 : (10 : Int32) = zI 10 := rfl
theorem l11 : (11 : Int32) = zI 11 := rfl
theorem l12 : (12 : Int32) = zI 12 := rfl
theorem l13 : (13 : Int32) = zI 13 := rfl
theorem l14 : (14 : Int32) = zI 14 := rfl
theorem l15 : (15 : Int32) = zI 15 := rfl
theorem l16 : (16 : Int32) = zI 16 := rfl
theorem l17 : (17 : Int32) = zI 17 := rfl
theorem l18 : (18 : Int32) = zI 18 := rfl
theorem l20 : (20 : Int32) = zI 20 := rfl
theorem l21 : (21 : Int32) = zI 21 := rfl
theorem l22 : (22 : Int32) = zI 22 := rfl
theorem l23 : (23 : Int32) = zI 23 := rfl
theorem l24 : (24 : Int32) = zI 24 := rfl
theorem l40 : (40 : Int32) = zI 40 := rfl
theorem l42 : (42 : Int32) = zI 42 := rfl
theorem l120 : (120 : Int32) = zI 120 := rfl
theorem l192 : (192 : Int32) = zI 192 := rfl
theorem l255 : (255 : Int32) = zI 255 := rfl
theorem l576 : (576 : Int32) = zI 576 := rfl
theorem l966 : (966 : Int32) = zI 966 := rfl
theorem l999 : (999 : Int32) = zI 999 := rfl
theorem l100 : (100 : Int32) = zI 100 := rfl
theorem l1000 : (1000 : Int32) = zI 1000 := rfl
theorem l11520 : (11520 : Int32) = zI 11520 := rfl
theorem l999999 : (999999 : Int32) = zI 999999 := rfl
theorem lm1 : (-1 : Int32) = zI (-1) := rfl
theorem lE6 : (1000000 : Int32) = zI 1000000 := rfl
theorem lE8 : (100000000 : Int32) = zI 100000000 := rfl
theorem lN0 : (-1000000 : Int32) = zI (-1000000) := rfl
theorem lN1 : (-1000001 : Int32) = zI (-1000001) := rfl
theorem lN2 : (-1000002 : Int32) = zI (-1000002) := rfl
theorem lN3 : (-1000003 : Int32) = zI (-1000003) := rfl
theorem lN10 : (-1000010 : Int32) = zI (-1000010) := rfl
theorem lN100 : (-1000100 : Int32) = zI (-1000100) := rfl
theorem aldZ {h : MH} {a n : Nat} {f : Nat → Int} (H : h.1 a = aZ n f) {k : Int} (h1 : 0 ≤ k) (h2 : k < n) (h3 : n < 2147483648) : ald h (some a) 0 (zI k) = some (zI (f k.toNat)) := ald_z H h1 h2 h3
theorem astZ {h : MH} {a n : Nat} {f : Nat → Int} (H : h.1 a = aZ n f) (ha : 3 ≤ a) {k x : Int} (h1 : 0 ≤ k) (h2 : k < n) (h3 : n < 2147483648) : ast h (some a) 0 (zI k) (zI x) = some (mj_up h a (aZ n (upI f k.toNat x))) := by
  rw [ast_z H ha (zI x) h1 h2 h3, upd_Z]
theorem alenZ {h : MH} {a n : Nat} {f : Nat → Int} (H : h.1 a = aZ n f) : alen h (some a) = some (zI (n : Int)) := alen_i H (by decide)
/-- the place 'at' of a list -/
def atI (n : Nat) (f : Nat → Int) (i : Int) : Int := if 0 ≤ i ∧ i < n then f i.toNat else 0
theorem atI_in {n : Nat} {f : Nat → Int} {i : Int} (h1 : 0 ≤ i) (h2 : i < n) : atI n f i = f i.toNat := by unfold atI; rw [if_pos ⟨h1, h2⟩]
theorem s_at {h : MH} {a n : Nat} {f : Nat → Int} (H : h.1 a = aZ n f) {i : Int} (h1 : -2147483648 ≤ i) (h2 : i < 2147483648) (h3 : n < 2147483648) : f_C_at (some a) (zI i) h = some (zI (atI n f i)) := by
  unfold f_C_at atI
  rw [alenZ H]
  simp (disch := omega) only [l0, zI_lt, zI_le, Option.bind_some]
  by_cases c1 : i < 0
  · rw [if_pos c1, if_neg (by omega)]
  · rw [if_neg c1]
    by_cases c2 : (n : Int) ≤ i
    · rw [if_pos c2, if_neg (by omega)]
    · rw [if_neg c2, aldZ H (by omega) (by omega) h3, if_pos (by omega)]
      rfl
theorem s_at_in {h : MH} {a n : Nat} {f : Nat → Int} (H : h.1 a = aZ n f) {i : Int} (h1 : 0 ≤ i) (h2 : i < n) (h3 : n < 2147483648) : f_C_at (some a) (zI i) h = some (zI (f i.toNat)) := by
  rw [s_at H (by omega) (by omega) h3, atI_in h1 h2]
theorem s_put {h : MH} {a n : Nat} {f : Nat → Int} (H : h.1 a = aZ n f) (ha : 3 ≤ a) {i x : Int} (h1 : 0 ≤ i) (h2 : i < n) (h3 : n < 2147483648) : f_C_put (some a) (zI i) (zI x) h = some (mj_up h a (aZ n (upI f i.toNat x))) := by
  unfold f_C_put
  rw [alenZ H, astZ H ha h1 h2 h3]
  simp (disch := omega) only [l0, zI_lt, zI_le, Option.bind_some]
  rw [if_neg (by omega), if_neg (by omega)]
theorem s_within {a b : Int} (h1 : -2147483648 ≤ a) (h2 : a < 2147483648) (h3 : 0 ≤ b) (h4 : b < 2147483648) : f_C_within (zI a) (zI b) = if 0 ≤ a ∧ a < b then 1 else 0 := by
  unfold f_C_within
  simp (disch := omega) only [l0, zI_lt, zI_le]
  by_cases c1 : a < 0
  · rw [if_pos c1, if_neg (by omega)]
  · rw [if_neg c1]
    by_cases c2 : b ≤ a
    · rw [if_pos c2, if_neg (by omega)]
    · rw [if_neg c2, if_pos (by omega)]
theorem s_within0 {a b : Int} (h1 : -2147483648 ≤ a) (h2 : a < 2147483648) (h3 : 0 ≤ b) (h4 : b < 2147483648) : (f_C_within (zI a) (zI b) = 0) ↔ ¬ (0 ≤ a ∧ a < b) := by
  rw [s_within h1 h2 h3 h4]
  by_cases c : 0 ≤ a ∧ a < b
  · rw [if_pos c]; exact ⟨fun h => absurd h (by decide), fun h => absurd c h⟩
  · rw [if_neg c]; exact ⟨fun _ => c, fun _ => rfl⟩
theorem zI_min {a b : Int} (h1 : -2147483648 ≤ a) (h2 : a < 2147483648) (h3 : -2147483648 ≤ b) (h4 : b < 2147483648) : mj_min (zI a) (zI b) = zI (min a b) := by
  unfold mj_min
  simp (disch := omega) only [zI_lt]
  by_cases c : b < a
  · rw [if_pos c, Int.min_eq_right (by omega)]
  · rw [if_neg c, Int.min_eq_left (by omega)]
theorem zI_max {a b : Int} (h1 : -2147483648 ≤ a) (h2 : a < 2147483648) (h3 : -2147483648 ≤ b) (h4 : b < 2147483648) : mj_max (zI a) (zI b) = zI (max a b) := by
  unfold mj_max
  simp (disch := omega) only [zI_lt]
  by_cases c : a < b
  · rw [if_pos c, Int.max_eq_right (by omega)]
  · rw [if_neg c, Int.max_eq_left (by omega)]
theorem zI_ite (c : Prop) [Decidable c] (a b : Int) : (if c then zI a else zI b) = zI (if c then a else b) := by by_cases h : c <;> simp [h]
theorem ite_01 (c : Prop) [Decidable c] : ((if c then (1 : Int32) else 0) = 0) ↔ ¬ c := by by_cases h : c <;> simp [h]
theorem ite_01' (c : Prop) [Decidable c] : ((if c then (1 : Int32) else 0) = 1) ↔ c := by by_cases h : c <;> simp [h]
theorem bd {α β : Type} (x : α) (f : α → Option β) : Option.bind (some x) f = f x := rfl
/-- a loop that fills -/
theorem s_fill {F : Nat} {h : MH} {a n : Nat} {x : Int} (ha : 3 ≤ a) (hn : n < 100000) : ∀ (m k : Nat) (fu : Nat) (f : Nat → Int) (g : MH), g.1 a = aZ n f → m + k = n → m < fu → b_J_fill_5 F fu (some a) (zI x) (zI (k : Int)) (zI (n : Int)) g = some (mj_up g a (aZ n (fun j => if k ≤ j ∧ j < n then x else f j))) := by
  intro m
  induction m with
  | zero =>
    intro k fu f g H hk hf
    obtain ⟨fu, rfl⟩ : ∃ q, fu = q + 1 := ⟨fu - 1, by omega⟩
    unfold b_J_fill_5
    simp (disch := omega) only [zI_le]
    rw [if_pos (by omega)]
    have : (fun j => if k ≤ j ∧ j < n then x else f j) = f := by
      funext j
      rw [if_neg (by omega)]
    rw [this, ← H, up_id]
  | succ m ih =>
    intro k fu f g H hk hf
    obtain ⟨fu, rfl⟩ : ∃ q, fu = q + 1 := ⟨fu - 1, by omega⟩
    unfold b_J_fill_5
    simp (disch := omega) only [zI_le]
    rw [if_neg (by omega), astZ H ha (by omega) (by omega) (by omega), bd, l1, zI_add, show ((k : Int) + 1) = ((k + 1 : Nat) : Int) by omega,
      ih (k + 1) fu (upI f ((k : Int)).toNat x) _ (by rw [up_get, if_pos rfl]) (by omega) (by omega), up_up]
    congr 3
    funext j
    unfold upI
    rw [Int.toNat_natCast]
    by_cases c : k + 1 ≤ j ∧ j < n
    · rw [if_pos c, if_pos (by omega)]
    · rw [if_neg c]
      by_cases c2 : j = k
      · rw [if_pos c2, if_pos (by omega)]
      · rw [if_neg c2, if_neg (by omega)]
theorem s_fillA {F : Nat} {h : MH} {a n : Nat} {x : Int} {f : Nat → Int} (ha : 3 ≤ a) (hn : n < 100000) (hF : 1000000 ≤ F) (H : h.1 a = aZ n f) : f_J_fill F (some a) (zI x) h = some (mj_up h a (aZ n (fun j => if j < n then x else f j))) := by
  unfold f_J_fill
  have := s_fill (F := F) (h := h) (x := x) ha hn n 0 F f h H (by omega) (by omega)
  rw [alenZ H, bd, l0]
  rw [show ((0 : Int)) = ((0 : Nat) : Int) from rfl, this]
  congr 3
  funext j
  simp
