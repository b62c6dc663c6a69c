/-! ===== gusts ===== -/
def chs (n : Nat) : Nat → Nat
  | 0 => 1
  | e + 1 => chs n e * (n - e) / (e + 1)
theorem chs_both : ∀ n, n < 10 → ∀ e, e < n + 1 → f_C_choices 1000000000000 (zI ((n : Nat) : Int)) (zI ((e : Nat) : Int)) = some (zL ((chs n e : Nat) : Int)) ∧ f_M_choose 1000000000000 (zI ((n : Nat) : Int)) (zI ((e : Nat) : Int)) = some (zL ((chs n e : Nat) : Int)) := by decide +kernel
theorem C_pow {F : Nat} {b n : Int} (b1 : 0 ≤ b ∧ b < 100) (n1 : 0 ≤ n ∧ n < 100) : ∀ (d k fu : Nat) (a : Int), (k : Int) + d = n → d < fu → b_C_power_5 F fu (zI b) (zI n) (zL a) (zI (k : Int)) = some (zL (a * b ^ d)) ∧ b_M_power_5 F fu (zL b) (zI n) (zL a) (zI (k : Int)) = some (zL (a * b ^ d)) := by
  intro d
  induction d with
  | zero =>
    intro k fu a hk hf
    obtain ⟨fu, rfl⟩ : ∃ q, fu = q + 1 := ⟨fu - 1, by omega⟩
    unfold b_C_power_5 b_M_power_5
    simp (disch := omega) only [zI_le]
    rw [if_pos (by omega), if_pos (by omega), Int.pow_zero, Int.mul_one]
    exact ⟨rfl, rfl⟩
  | succ d ih =>
    intro k fu a hk hf
    obtain ⟨fu, rfl⟩ : ∃ q, fu = q + 1 := ⟨fu - 1, by omega⟩
    have e64 : (zI b).toInt64 = zL b := zI_64 (by omega) (by omega)
    have := ih (k + 1) fu (a * b) (by omega) (by omega)
    unfold b_C_power_5 b_M_power_5
    simp (disch := omega) only [zI_le]
    rw [if_neg (by omega), if_neg (by omega), e64, zL_mul, l1, zI_add, show a * b ^ (d + 1) = a * b * b ^ d by rw [Int.pow_succ, Int.mul_assoc, Int.mul_comm b]]
    exact this
/-- the sum over the gusts from k on -/
def uS (p n : Nat) : Nat → Nat → Nat
  | 0, _ => 0
  | d + 1, k => chs n k * p ^ k * (10 - p) ^ (n - k) + uS p n d (k + 1)
def gE : Nat → Nat → Nat → Option Nat
  | 0, _, _ => none
  | m + 1, a, b => if b = 0 then some a else gE m b (a % b)
def gOK (p n k : Nat) : Bool := decide (uS p n (n + 1 - k) k < 100000000000) && (match gE 40 (uS p n (n + 1 - k) k) (10 ^ n) with
  | some g => decide (0 < g ∧ g < 100000000000)
  | none => false)
theorem gOK_all : ∀ p, p < 11 → ∀ n, n < 10 → ∀ k, k < n + 1 → gOK p n k = true := by decide +kernel
theorem gE_both {F : Nat} : ∀ (m a b g fu j : Nat), gE m a b = some g → a < 9223372036854775808 → b < 9223372036854775808 → m < fu → m + j ≤ 128 → b_C_commonDivisor_3 F fu (zL (a : Int)) (zL (b : Int)) (zI (j : Int)) = some (zL (g : Int)) ∧ b_M_gcd_6 F fu (zL (a : Int)) (zL (b : Int)) = some (zL (g : Int)) := by
  intro m
  induction m with
  | zero => intro a b g fu j h; cases h
  | succ m ih =>
    intro a b g fu j h ha hb hf hj
    obtain ⟨fu, rfl⟩ : ∃ q, fu = q + 1 := ⟨fu - 1, by omega⟩
    have xj : (128 : Int32) ≤ zI (j : Int) ↔ 128 ≤ (j : Int) := zI_le (a := 128) (by omega) (by omega) (by omega) (by omega)
    have x0 : zL (b : Int) = (0 : Int64) ↔ b = 0 := by
      constructor
      · intro z
        have := congrArg Int64.toInt z
        rw [zL_toInt (by omega) (by omega)] at this
        rw [show (0 : Int64).toInt = 0 from rfl] at this
        omega
      · intro z; rw [z]; rfl
    unfold gE at h
    unfold b_C_commonDivisor_3 b_M_gcd_6
    simp only [xj, lg_cmp_eq, x0]
    rw [if_neg (by omega)]
    by_cases c : b = 0
    · rw [if_pos c] at h
      rw [if_pos c, if_pos c]
      cases h
      exact ⟨rfl, rfl⟩
    · rw [if_neg c] at h
      have enz : mj_nzl (zL (b : Int)) = some () := by
        unfold mj_nzl
        rw [if_neg (fun z => c (x0.mp z))]
      have hr : a % b < b := Nat.mod_lt _ (by omega)
      have := ih b (a % b) g fu (j + 1) h hb (by omega) (by omega) (by omega)
      rw [if_neg c, if_neg c, enz, bd, bd, zL_rem (by omega) (by omega) (by omega) (by omega), l1, zI_add, show ((a : Int) % (b : Int)) = ((a % b : Nat) : Int) by omega]
      exact this
theorem gu_both {p n w : Nat} (hp : p < 11) (hn : n < 10) {h : MH} : ∀ (d k fu : Nat) (u : Nat), k + d = n + 1 → d < fu →
    b_C_gusts_48 1000000000000 fu (zI (p : Int)) (zI (n : Int)) (zI (w : Int)) (zL (u : Int)) (zI (k : Int)) = b_C_gusts_48 1000000000000 (fu - d) (zI (p : Int)) (zI (n : Int)) (zI (w : Int)) (zL ((u + uS p n d k : Nat) : Int)) (zI ((n + 1 : Nat) : Int)) ∧ b_M_gusts_54 1000000000000 fu (zI (p : Int)) (zI (n : Int)) (zI (w : Int)) (zL (u : Int)) (zI (k : Int)) h = b_M_gusts_54 1000000000000 (fu - d) (zI (p : Int)) (zI (n : Int)) (zI (w : Int)) (zL ((u + uS p n d k : Nat) : Int)) (zI ((n + 1 : Nat) : Int)) h := by
  intro d
  induction d with
  | zero =>
    intro k fu u hk hf
    rw [show k = n + 1 by omega, Nat.sub_zero]
    exact ⟨rfl, rfl⟩
  | succ d ih =>
    intro k fu u hk hf
    obtain ⟨fu, rfl⟩ : ∃ q, fu = q + 1 := ⟨fu - 1, by omega⟩
    obtain ⟨c1, c2⟩ := chs_both n hn k (by omega)
    have e64 : (zI (p : Int)).toInt64 = zL (p : Int) := zI_64 (by omega) (by omega)
    have e64' : (zI (10 - (p : Int))).toInt64 = zL (10 - (p : Int)) := zI_64 (by omega) (by omega)
    have p1 := C_pow (F := 1000000000000) (b := (p : Int)) (n := (k : Int)) (by omega) (by omega) k 0 1000000000000 1 (by omega) (by omega)
    have p2 := C_pow (F := 1000000000000) (b := 10 - (p : Int)) (n := (n : Int) - k) (by omega) (by omega) (n - k) 0 1000000000000 1 (by omega) (by omega)
    have q1 : f_C_power 1000000000000 (zI (p : Int)) (zI (k : Int)) = some (zL ((p : Int) ^ k)) := by
      have := p1.1; rw [Int.one_mul] at this; exact this
    have q2 : f_M_power 1000000000000 (zL (p : Int)) (zI (k : Int)) = some (zL ((p : Int) ^ k)) := by
      have := p1.2; rw [Int.one_mul] at this; exact this
    have q3 : f_C_power 1000000000000 (zI (10 - (p : Int))) (zI ((n : Int) - k)) = some (zL ((10 - (p : Int)) ^ (n - k))) := by
      have := p2.1; rw [Int.one_mul] at this; exact this
    have q4 : f_M_power 1000000000000 (zL (10 - (p : Int))) (zI ((n : Int) - k)) = some (zL ((10 - (p : Int)) ^ (n - k))) := by
      have := p2.2; rw [Int.one_mul] at this; exact this
    have xlt : zI (n : Int) < zI (k : Int) ↔ (n : Int) < (k : Int) := zI_lt (by omega) (by omega) (by omega) (by omega)
    have es : ((u : Int) + ((chs n k : Nat) : Int) * (p : Int) ^ k * (10 - (p : Int)) ^ (n - k)) = ((u + chs n k * p ^ k * (10 - p) ^ (n - k) : Nat) : Int) := by
      rw [Int.natCast_add, Int.natCast_mul, Int.natCast_mul, Int.natCast_pow, Int.natCast_pow, Int.natCast_sub (by omega)]
      rfl
    have := ih (k + 1) fu (u + chs n k * p ^ k * (10 - p) ^ (n - k)) (by omega) (by omega)
    have eu : uS p n (d + 1) k = chs n k * p ^ k * (10 - p) ^ (n - k) + uS p n d (k + 1) := rfl
    rw [eu, show fu + 1 - (d + 1) = fu - d by omega, ← Nat.add_assoc]
    constructor
    · rw [← this.1]
      conv => lhs; unfold b_C_gusts_48
      simp only [xlt]
      rw [if_neg (by omega), c1, bd, q1, bd, l10, zI_sub, zI_sub, q3, bd, zL_mul, zL_mul, show zL (u : Int) + zL (((chs n k : Nat) : Int) * (p : Int) ^ k * (10 - (p : Int)) ^ (n - k)) = zL ((u : Int) + ((chs n k : Nat) : Int) * (p : Int) ^ k * (10 - (p : Int)) ^ (n - k)) from (Int64.ofInt_add _ _).symm, es, l1, zI_add]
      rfl
    · rw [← this.2]
      conv => lhs; unfold b_M_gusts_54
      simp only [xlt]
      rw [if_neg (by omega), c2, bd, e64, q2, bd, l10, zI_sub, zI_sub, e64', q4, bd, zL_mul, zL_mul, show zL (u : Int) + zL (((chs n k : Nat) : Int) * (p : Int) ^ k * (10 - (p : Int)) ^ (n - k)) = zL ((u : Int) + ((chs n k : Nat) : Int) * (p : Int) ^ k * (10 - (p : Int)) ^ (n - k)) from (Int64.ofInt_add _ _).symm, es, l1, zI_add]
      rfl
theorem s_gusts (i1 i2 i3 i4 : Int32) : ∀ h P, J h P → ∃ x h2 P2, f_C_gusts 1000000000000 (some 3) i1 i2 i3 i4 = some x ∧ f_M_gusts 1000000000000 (some 34) i1 i2 i3 i4 h = some (x, h2) ∧ J h2 P2 ∧ Gr h h h2 := by
  intro h P X
  obtain ⟨p, p1, p2, rfl⟩ := i_ex i1
  obtain ⟨n, n1, n2, rfl⟩ := i_ex i2
  obtain ⟨k, k1, k2, rfl⟩ := i_ex i3
  obtain ⟨w, w1, w2, rfl⟩ := i_ex i4
  obtain ⟨g, e, c, X'⟩ := X.thr
  have xp0 : zI p < (0 : Int32) ↔ p < 0 := zI_lt (b := 0) (by omega) (by omega) (by omega) (by omega)
  have xp1 : (10 : Int32) < zI p ↔ 10 < p := zI_lt (a := 10) (by omega) (by omega) (by omega) (by omega)
  have xn0 : zI n < (0 : Int32) ↔ n < 0 := zI_lt (b := 0) (by omega) (by omega) (by omega) (by omega)
  have xn1 : (9 : Int32) < zI n ↔ 9 < n := zI_lt (a := 9) (by omega) (by omega) (by omega) (by omega)
  have xk0 : zI k < (0 : Int32) ↔ k < 0 := zI_lt (b := 0) (by omega) (by omega) (by omega) (by omega)
  have xk1 : zI n < zI k ↔ n < k := zI_lt (by omega) (by omega) (by omega) (by omega)
  have hw : f_C_within (zI w) (2 : Int32) = 0 ↔ ¬ (0 ≤ w ∧ w < 2) := s_within0 (b := 2) w1 w2 (by omega) (by omega)
  have hip : f_M_in (zI p) (0 : Int32) (10 : Int32) = 0 ↔ ¬ (0 ≤ p ∧ p ≤ 10) := by
    rw [show f_M_in (zI p) (0 : Int32) (10 : Int32) = if 0 ≤ p ∧ p ≤ 10 then 1 else 0 from s_M_in (a := 0) (b := 10) p1 p2 (by omega) (by omega) (by omega) (by omega), ite_01]
  have hin : f_M_in (zI n) (0 : Int32) (9 : Int32) = 0 ↔ ¬ (0 ≤ n ∧ n ≤ 9) := by
    rw [show f_M_in (zI n) (0 : Int32) (9 : Int32) = if 0 ≤ n ∧ n ≤ 9 then 1 else 0 from s_M_in (a := 0) (b := 9) n1 n2 (by omega) (by omega) (by omega) (by omega), ite_01]
  have hik : f_M_in (zI k) (0 : Int32) (zI n) = 0 ↔ ¬ (0 ≤ k ∧ k ≤ n) := by
    rw [show f_M_in (zI k) (0 : Int32) (zI n) = if 0 ≤ k ∧ k ≤ n then 1 else 0 from s_M_in (a := 0) k1 k2 (by omega) (by omega) n1 n2, ite_01]
  have hiw : f_M_in (zI w) (0 : Int32) (1 : Int32) = 0 ↔ ¬ (0 ≤ w ∧ w < 2) := by
    rw [show f_M_in (zI w) (0 : Int32) (1 : Int32) = if 0 ≤ w ∧ w ≤ 1 then 1 else 0 from s_M_in (a := 0) (b := 1) w1 w2 (by omega) (by omega) (by omega) (by omega), ite_01]
    omega
  have eC : f_C_gusts 1000000000000 (some 3) (zI p) (zI n) (zI k) (zI w) = if (0 ≤ p ∧ p ≤ 10) ∧ (0 ≤ n ∧ n ≤ 9) ∧ (0 ≤ k ∧ k ≤ n) ∧ (0 ≤ w ∧ w < 2) then b_C_gusts_48 1000000000000 1000000000000 (zI p) (zI n) (zI w) (0 : Int64) (zI k) else some (-1000001 : Int64) := by
    unfold f_C_gusts
    simp only [xp0, xp1, xn0, xn1, xk0, xk1, hw]
    by_cases cb : (0 ≤ p ∧ p ≤ 10) ∧ (0 ≤ n ∧ n ≤ 9) ∧ (0 ≤ k ∧ k ≤ n) ∧ (0 ≤ w ∧ w < 2)
    · rw [if_pos cb, if_neg (by omega), if_neg (by omega), if_neg (by omega), if_neg (by omega), if_neg (by omega), if_neg (by omega), if_neg (show ¬ ¬ (0 ≤ w ∧ w < 2) from fun z => z cb.2.2.2)]
    · rw [if_neg cb]
      by_cases a1 : p < 0
      · rw [if_pos a1]
      by_cases a2 : 10 < p
      · rw [if_neg a1, if_pos a2]
      by_cases a3 : n < 0
      · rw [if_neg a1, if_neg a2, if_pos a3]
      by_cases a4 : 9 < n
      · rw [if_neg a1, if_neg a2, if_neg a3, if_pos a4]
      by_cases a5 : k < 0
      · rw [if_neg a1, if_neg a2, if_neg a3, if_neg a4, if_pos a5]
      by_cases a6 : n < k
      · rw [if_neg a1, if_neg a2, if_neg a3, if_neg a4, if_neg a5, if_pos a6]
      rw [if_neg a1, if_neg a2, if_neg a3, if_neg a4, if_neg a5, if_neg a6, if_pos (show ¬ (0 ≤ w ∧ w < 2) by omega)]
  have eM : f_M_gusts 1000000000000 (some 34) (zI p) (zI n) (zI k) (zI w) h = if (0 ≤ p ∧ p ≤ 10) ∧ (0 ≤ n ∧ n ≤ 9) ∧ (0 ≤ k ∧ k ≤ n) ∧ (0 ≤ w ∧ w < 2) then b_M_gusts_54 1000000000000 1000000000000 (zI p) (zI n) (zI w) (0 : Int64) (zI k) g else some (-1000001, g) := by
    unfold f_M_gusts
    rw [e, bd]
    simp only [hip, hin, hik, hiw]
    by_cases a1 : 0 ≤ p ∧ p ≤ 10
    · rw [if_neg (show ¬ ¬ (0 ≤ p ∧ p ≤ 10) from fun z => z a1)]
      by_cases a2 : 0 ≤ n ∧ n ≤ 9
      · rw [if_neg (show ¬ ¬ (0 ≤ n ∧ n ≤ 9) from fun z => z a2)]
        by_cases a3 : 0 ≤ k ∧ k ≤ n
        · rw [if_neg (show ¬ ¬ (0 ≤ k ∧ k ≤ n) from fun z => z a3)]
          by_cases a4 : 0 ≤ w ∧ w < 2
          · rw [if_neg (show ¬ ¬ (0 ≤ w ∧ w < 2) from fun z => z a4), if_pos ⟨a1, a2, a3, a4⟩]
          · rw [if_pos a4, if_neg (fun z => a4 z.2.2.2)]
        · rw [if_pos a3, if_neg (fun z => a3 z.2.2.1)]
      · rw [if_pos a2, if_neg (fun z => a2 z.2.1)]
    · rw [if_pos a1, if_neg (fun z => a1 z.1)]
  rw [eC, eM]
  by_cases cb : (0 ≤ p ∧ p ≤ 10) ∧ (0 ≤ n ∧ n ≤ 9) ∧ (0 ≤ k ∧ k ≤ n) ∧ (0 ≤ w ∧ w < 2)
  · rw [if_pos cb, if_pos cb]
    obtain ⟨p, rfl⟩ := Int.eq_ofNat_of_zero_le cb.1.1
    obtain ⟨n, rfl⟩ := Int.eq_ofNat_of_zero_le cb.2.1.1
    obtain ⟨k, rfl⟩ := Int.eq_ofNat_of_zero_le cb.2.2.1.1
    obtain ⟨w, rfl⟩ := Int.eq_ofNat_of_zero_le cb.2.2.2.1
    have hok := gOK_all p (by omega) n (by omega) k (by omega)
    unfold gOK at hok
    rw [Bool.and_eq_true] at hok
    obtain ⟨hu, hg⟩ := hok
    obtain ⟨r1, r2⟩ := gu_both (p := p) (n := n) (w := w) (h := g) (by omega) (by omega) (n + 1 - k) k 1000000000000 0 (by omega) (by omega)
    rw [Nat.zero_add] at r1 r2
    generalize hU : uS p n (n + 1 - k) k = U at hu hg r1 r2
    cases hG : gE 40 U (10 ^ n) with
    | none => rw [hG] at hg; cases hg
    | some d =>
      rw [hG] at hg
      have hg : 0 < d ∧ d < 100000000000 := of_decide_eq_true hg
      have hu : U < 100000000000 := of_decide_eq_true hu
      have h10 : 10 ^ n ≤ 10 ^ 9 := Nat.pow_le_pow_right (by omega) (by omega)
      have h10b : (10 : Nat) ^ 9 = 1000000000 := by decide
      obtain ⟨fu, hfu⟩ : ∃ q, 1000000000000 - (n + 1 - k) = q + 1 := ⟨1000000000000 - (n + 1 - k) - 1, by omega⟩
      obtain ⟨d1, d2⟩ := gE_both (F := 1000000000000) 40 U (10 ^ n) d 1000000000000 0 hG (by omega) (by omega) (by omega) (by omega)
      have p10 := C_pow (F := 1000000000000) (b := 10) (n := (n : Int)) (by omega) (by omega) n 0 1000000000000 1 (by omega) (by omega)
      have q1 : f_C_power 1000000000000 (10 : Int32) (zI (n : Int)) = some (zL ((10 ^ n : Nat) : Int)) := by
        have := p10.1
        rw [Int.one_mul] at this
        rw [Int.natCast_pow]
        exact this
      have q2 : f_M_power 1000000000000 (10 : Int64) (zI (n : Int)) = some (zL ((10 ^ n : Nat) : Int)) := by
        have := p10.2
        rw [Int.one_mul] at this
        rw [Int.natCast_pow]
        exact this
      have g1 : f_C_commonDivisor 1000000000000 (zL (U : Int)) (zL ((10 ^ n : Nat) : Int)) = some (zL (d : Int)) := d1
      have g2 : f_M_gcd 1000000000000 (zL (U : Int)) (zL ((10 ^ n : Nat) : Int)) = some (zL (d : Int)) := d2
      have xlt : zI (n : Int) < zI ((n + 1 : Nat) : Int) ↔ (n : Int) < ((n + 1 : Nat) : Int) := zI_lt (by omega) (by omega) (by omega) (by omega)
      have xw : zI (w : Int) = (0 : Int32) ↔ (w : Int) = 0 := zI_eq (b := 0) (by omega) (by omega) (by omega) (by omega)
      have hd0 : (zL (d : Int)).toInt = d := zL_toInt (by omega) (by omega)
      have hpos : 0 < lg_cmp (zL (d : Int)) (0 : Int64) := by
        rw [lg_cmp_gt, Int64.lt_iff_toInt_lt, hd0, show (0 : Int64).toInt = 0 from rfl]
        omega
      have enz : mj_nzl (zL (d : Int)) = some () := by
        unfold mj_nzl
        rw [if_neg ?_]
        intro z
        have := congrArg Int64.toInt z
        rw [hd0, show (0 : Int64).toInt = 0 from rfl] at this
        omega
      refine ⟨if (w : Int) = 0 then zL (U : Int) / zL (d : Int) else zL ((10 ^ n : Nat) : Int) / zL (d : Int), g, th P, ?_, ?_, X', Gr_eq c (by omega)⟩
      · rw [show (0 : Int64) = zL ((0 : Nat) : Int) from rfl, r1, hfu]
        unfold b_C_gusts_48
        simp only [xlt, xw]
        rw [if_pos (by omega), q1, bd, g1, bd, if_pos hpos, enz, bd, bd]
        by_cases c0 : (w : Int) = 0
        · rw [if_pos c0, if_pos c0]
        · rw [if_neg c0, if_neg c0]
      · rw [show (0 : Int64) = zL ((0 : Nat) : Int) from rfl, r2, hfu]
        unfold b_M_gusts_54
        simp only [xlt, xw]
        rw [if_pos (by omega), q2, bd, g2, bd, enz, bd, bd]
        by_cases c0 : (w : Int) = 0
        · rw [if_pos c0, if_pos c0]
        · rw [if_neg c0, if_neg c0]
  · rw [if_neg cb, if_neg cb]
    exact ⟨-1000001, g, th P, rfl, rfl, X', Gr_eq c (by omega)⟩
