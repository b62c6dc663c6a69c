/-- bit c of m -/
def btN (m c : Nat) : Nat := m / 2 ^ c % 2
theorem sh_k : ∀ c : Nat, c < 24 → ((zI (c : Int) &&& 31).toBitVec.smod 32).toNat = c := by decide +kernel
theorem bitN {m c : Nat} (hm : m < 2 ^ 31) (hc : c < 24) : (nI m >>> (zI (c : Int) &&& 31)) &&& 1 = nI (btN m c) := by
  rw [pk_shrN hm _ c (sh_k c hc), pk_andN ?_ 1 (by decide)]
  · rfl
  · have := Nat.div_le_self m (2 ^ c)
    omega
theorem oneN {c : Nat} (hc : c < 24) : (1 : Int32) <<< (zI (c : Int) &&& 31) = nI (2 ^ c) := by
  have : ∀ c : Nat, c < 24 → (1 : Int32) <<< (zI (c : Int) &&& 31) = nI (2 ^ c) := by decide +kernel
  exact this c hc
theorem btN_r (m c : Nat) : btN m c = 0 ∨ btN m c = 1 := by unfold btN; omega
theorem xor1 (y : Nat) : y ^^^ 1 = if y % 2 = 0 then y + 1 else y - 1 := by
  have h1 := Nat.xor_div_two_pow (a := y) (b := 1) (n := 1)
  have h2 := Nat.xor_mod_two_pow (a := y) (b := 1) (n := 1)
  rw [show (1 : Nat) / 2 ^ 1 = 0 from rfl, Nat.xor_zero] at h1
  by_cases c : y % 2 = 0
  · rw [if_pos c]
    rw [show y % 2 ^ 1 = 0 from c, show (1 : Nat) % 2 ^ 1 = 1 from rfl, show (0 : Nat) ^^^ 1 = 1 from rfl] at h2
    omega
  · rw [if_neg c]
    rw [show y % 2 ^ 1 = 1 by omega, show (1 : Nat) % 2 ^ 1 = 1 from rfl, show (1 : Nat) ^^^ 1 = 0 from rfl] at h2
    omega
theorem xorN (m c : Nat) : m ^^^ 2 ^ c = if btN m c = 0 then m + 2 ^ c else m - 2 ^ c := by
  have h1 := Nat.xor_div_two_pow (a := m) (b := 2 ^ c) (n := c)
  have h2 := Nat.xor_mod_two_pow (a := m) (b := 2 ^ c) (n := c)
  have hp := Nat.two_pow_pos c
  rw [Nat.div_self hp, xor1] at h1
  rw [Nat.mod_self, Nat.xor_zero] at h2
  have d1 := Nat.div_add_mod (m ^^^ 2 ^ c) (2 ^ c)
  have d2 := Nat.div_add_mod m (2 ^ c)
  rw [h1, h2] at d1
  unfold btN
  by_cases z : m / 2 ^ c % 2 = 0
  · rw [if_pos z] at d1 ⊢
    rw [Nat.mul_add] at d1
    omega
  · rw [if_neg z] at d1 ⊢
    have : 1 ≤ m / 2 ^ c := by
      clear d1 d2 h1 h2
      generalize m / 2 ^ c = y at z ⊢
      omega
    have e : 2 ^ c * (m / 2 ^ c - 1) + 2 ^ c = 2 ^ c * (m / 2 ^ c) := by
      rw [Nat.mul_sub, Nat.mul_one]
      have : 2 ^ c * 1 ≤ 2 ^ c * (m / 2 ^ c) := Nat.mul_le_mul_left _ this
      omega
    omega
/-- the sum of the bits -/
def onR (m : Nat) : Nat → Nat
  | 0 => 0
  | k + 1 => onR m k + btN m k
theorem onR_24 {m : Nat} (hm : m < 16777216) : onR m 24 = onN m := by
  have e : ∀ k : Nat, k < 8 → (m % 256 / 2 ^ k % 2 = m / 2 ^ k % 2 ∧ m / 256 % 256 / 2 ^ k % 2 = m / 2 ^ (k + 8) % 2 ∧ m / 65536 % 256 / 2 ^ k % 2 = m / 2 ^ (k + 16) % 2) := by
    intro k hk
    rcases (show k = 0 ∨ k = 1 ∨ k = 2 ∨ k = 3 ∨ k = 4 ∨ k = 5 ∨ k = 6 ∨ k = 7 by omega) with rfl | rfl | rfl | rfl | rfl | rfl | rfl | rfl <;> (simp only [Nat.reducePow, Nat.reduceAdd]; omega)
  have f : ∀ y : Nat, on8 y = y / 2 ^ 0 % 2 + y / 2 ^ 1 % 2 + y / 2 ^ 2 % 2 + y / 2 ^ 3 % 2 + y / 2 ^ 4 % 2 + y / 2 ^ 5 % 2 + y / 2 ^ 6 % 2 + y / 2 ^ 7 % 2 := by
    intro y
    unfold on8
    simp only [Nat.reducePow, Nat.div_one]
  unfold onN
  rw [f, f, f, (e 0 (by decide)).1, (e 1 (by decide)).1, (e 2 (by decide)).1, (e 3 (by decide)).1, (e 4 (by decide)).1, (e 5 (by decide)).1, (e 6 (by decide)).1, (e 7 (by decide)).1]
  rw [(e 0 (by decide)).2.1, (e 1 (by decide)).2.1, (e 2 (by decide)).2.1, (e 3 (by decide)).2.1, (e 4 (by decide)).2.1, (e 5 (by decide)).2.1, (e 6 (by decide)).2.1, (e 7 (by decide)).2.1]
  rw [(e 0 (by decide)).2.2, (e 1 (by decide)).2.2, (e 2 (by decide)).2.2, (e 3 (by decide)).2.2, (e 4 (by decide)).2.2, (e 5 (by decide)).2.2, (e 6 (by decide)).2.2, (e 7 (by decide)).2.2]
  simp only [onR, btN, Nat.reduceAdd, Nat.zero_add]
  generalize m / 2 ^ 0 % 2 = x0, m / 2 ^ 1 % 2 = x1, m / 2 ^ 2 % 2 = x2, m / 2 ^ 3 % 2 = x3, m / 2 ^ 4 % 2 = x4, m / 2 ^ 5 % 2 = x5, m / 2 ^ 6 % 2 = x6, m / 2 ^ 7 % 2 = x7
  generalize m / 2 ^ 8 % 2 = y0, m / 2 ^ 9 % 2 = y1, m / 2 ^ 10 % 2 = y2, m / 2 ^ 11 % 2 = y3, m / 2 ^ 12 % 2 = y4, m / 2 ^ 13 % 2 = y5, m / 2 ^ 14 % 2 = y6, m / 2 ^ 15 % 2 = y7
  generalize m / 2 ^ 16 % 2 = z0, m / 2 ^ 17 % 2 = z1, m / 2 ^ 18 % 2 = z2, m / 2 ^ 19 % 2 = z3, m / 2 ^ 20 % 2 = z4, m / 2 ^ 21 % 2 = z5, m / 2 ^ 22 % 2 = z6, m / 2 ^ 23 % 2 = z7
  omega
theorem onR_r (m : Nat) : ∀ k, onR m k ≤ k
  | 0 => Nat.le_refl _
  | k + 1 => by
    have := onR_r m k
    have := btN_r m k
    unfold onR
    omega
theorem m_ones {F : Nat} (hF : 100 ≤ F) {m : Nat} (hm : m < 16777216) : f_M_ones F (nI m) = some (nI (onN m)) := by
  have key : ∀ (d k fu : Nat), k + d = 24 → d < fu → b_M_ones_4 F fu (nI m) (nI (onR m k)) (zI (k : Int)) = some (nI (onR m 24)) := by
    intro d
    induction d with
    | zero =>
      intro k fu hk hf
      obtain ⟨fu, rfl⟩ : ∃ q, fu = q + 1 := ⟨fu - 1, by omega⟩
      unfold b_M_ones_4
      simp (disch := omega) only [l24, zI_le]
      rw [if_pos (by omega), show k = 24 by omega]
    | succ d ih =>
      intro k fu hk hf
      obtain ⟨fu, rfl⟩ : ∃ q, fu = q + 1 := ⟨fu - 1, by omega⟩
      have h8 : (24 : Int32) ≤ zI (k : Int) ↔ 24 ≤ (k : Int) := zI_le (a := 24) (by omega) (by omega) (by omega) (by omega)
      rw [← ih (k + 1) fu (by omega) (by omega)]
      conv => lhs; unfold b_M_ones_4
      rw [bitN (by omega) (by omega), nI_add]
      simp only [h8]
      rw [if_neg (show ¬ 24 ≤ (k : Int) by omega), l1, zI_add]
      rfl
  unfold f_M_ones
  rw [← onR_24 hm]
  exact key 24 0 F rfl (by omega)
theorem onR_add (m c : Nat) (hb : btN m c = 0) : ∀ k, onR (m + 2 ^ c) k = onR m k + if c < k then 1 else 0 := by
  have hbit : ∀ j, btN (m + 2 ^ c) j = btN m j + if j = c then 1 else 0 := by
    intro j
    have hx := xorN m c
    rw [if_pos hb] at hx
    have t : ∀ y i, btN y i = (y.testBit i).toNat := by
      intro y i
      unfold btN
      rw [Nat.testBit_eq_decide_div_mod_eq]
      have : y / 2 ^ i % 2 = 0 ∨ y / 2 ^ i % 2 = 1 := by omega
      rcases this with e | e <;> rw [e] <;> rfl
    rw [t, ← hx, Nat.testBit_xor, Nat.testBit_two_pow, t]
    by_cases e : j = c
    · rw [if_pos e, e]
      rw [t] at hb
      have : m.testBit c = false := by
        cases h : m.testBit c with
        | false => rfl
        | true => rw [h] at hb; cases hb
      rw [this]
      simp
    · rw [if_neg e, decide_eq_false (fun z => e z.symm)]
      simp
  intro k
  induction k with
  | zero => simp [onR]
  | succ k ih =>
    unfold onR
    rw [ih, hbit]
    by_cases e1 : c < k
    · rw [if_pos e1, if_neg (by omega), if_pos (by omega)]; omega
    · rw [if_neg e1]
      by_cases e2 : k = c
      · rw [if_pos e2, if_pos (by omega)]; omega
      · rw [if_neg e2, if_neg (by omega)]; omega
