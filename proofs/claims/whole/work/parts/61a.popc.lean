/-! ===== bits ===== -/
theorem zN (n : Nat) : zI (n : Int) = nI n := Int32.ofInt_eq_ofNat (n := n)
theorem nI_and {a b : Nat} (ha : a < 2 ^ 31) (hb : b < 2 ^ 31) : nI a &&& nI b = nI (a &&& b) := by
  have h := Nat.and_lt_two_pow a (n := 31) hb
  apply Int32.toBitVec_inj.mp
  apply BitVec.eq_of_toNat_eq
  rw [Int32.toBitVec_and, BitVec.toNat_and, pk_tn (by omega), pk_tn (by omega), pk_tn (by omega)]
theorem nI_xor {a b : Nat} (ha : a < 2 ^ 31) (hb : b < 2 ^ 31) : nI a ^^^ nI b = nI (a ^^^ b) := by
  have h := Nat.xor_lt_two_pow (n := 31) ha hb
  apply Int32.toBitVec_inj.mp
  apply BitVec.eq_of_toNat_eq
  rw [Int32.toBitVec_xor, BitVec.toNat_xor, pk_tn (by omega), pk_tn (by omega), pk_tn (by omega)]
theorem nI_or {a b : Nat} (ha : a < 2 ^ 31) (hb : b < 2 ^ 31) : nI a ||| nI b = nI (a ||| b) := by
  have h := Nat.or_lt_two_pow (n := 31) ha hb
  apply Int32.toBitVec_inj.mp
  apply BitVec.eq_of_toNat_eq
  rw [Int32.toBitVec_or, BitVec.toNat_or, pk_tn (by omega), pk_tn (by omega), pk_tn (by omega)]
/-- how many of eight bits are set -/
def on8 (x : Nat) : Nat := x % 2 + x / 2 % 2 + x / 4 % 2 + x / 8 % 2 + x / 16 % 2 + x / 32 % 2 + x / 64 % 2 + x / 128 % 2
def onN (x : Nat) : Nat := on8 (x % 256) + on8 (x / 256 % 256) + on8 (x / 65536 % 256)
theorem and256 {A B a b : Nat} (ha : a < 256) (hb : b < 256) : (256 * A + a) &&& (256 * B + b) = 256 * (A &&& B) + (a &&& b) := by
  have h1 := Nat.and_div_two_pow (a := 256 * A + a) (b := 256 * B + b) (n := 8)
  have h2 := Nat.and_mod_two_pow (a := 256 * A + a) (b := 256 * B + b) (n := 8)
  have h3 := Nat.and_lt_two_pow a (n := 8) hb
  rw [show (256 * A + a) / 2 ^ 8 = A by omega, show (256 * B + b) / 2 ^ 8 = B by omega] at h1
  rw [show (256 * A + a) % 2 ^ 8 = a by omega, show (256 * B + b) % 2 ^ 8 = b by omega] at h2
  omega
theorem and3 {a b c p q r : Nat} (ha : a < 256) (hb : b < 256) (hc : c < 256) (hp : p < 256) (hq : q < 256) (hr : r < 256) (m : Nat) : (a + 256 * b + 65536 * c) &&& (p + 256 * q + 65536 * r + 16777216 * m) = (a &&& p) + 256 * (b &&& q) + 65536 * (c &&& r) := by
  have e1 := and256 (A := b + 256 * c) (B := q + 256 * r + 65536 * m) ha hp
  have e2 := and256 (A := c) (B := r + 256 * m) hb hq
  have e3 := and256 (A := 0) (B := m) hc hr
  rw [show 256 * (b + 256 * c) + a = a + 256 * b + 65536 * c by omega, show 256 * (q + 256 * r + 65536 * m) + p = p + 256 * q + 65536 * r + 16777216 * m by omega, show b + 256 * c = 256 * c + b by omega, show q + 256 * r + 65536 * m = 256 * (r + 256 * m) + q by omega] at e1
  rw [show r + 256 * m = 256 * m + r by omega] at e2 e1
  rw [show 256 * 0 + c = c by omega, Nat.zero_and] at e3
  rw [e1, e2, e3]
  omega
theorem bA : ∀ a : Nat, a < 256 → ∀ e : Nat, e < 2 → ((a / 2 + 128 * e) &&& 85) = ((a / 2) &&& 85) ∧ ((a / 2) &&& 85) ≤ a := by decide +kernel
theorem bB : ∀ p : Nat, p < 256 → ∀ e : Nat, e < 4 → ((p / 4 + 64 * e) &&& 51) = ((p / 4) &&& 51) ∧ ((p / 4) &&& 51) ≤ 51 ∧ (p &&& 51) ≤ 51 := by decide +kernel
theorem bC : ∀ u : Nat, u < 80 → ∀ e : Nat, e < 8 → ((u + u / 16 + 16 * e) &&& 15) = (u + u / 16) % 16 := by decide +kernel
def bp1 (a : Nat) : Nat := a - ((a / 2) &&& 85)
def bp2 (p : Nat) : Nat := (p &&& 51) + ((p / 4) &&& 51)
theorem bD : ∀ a : Nat, a < 256 → bp1 a < 256 ∧ bp2 (bp1 a) < 80 ∧ bp2 (bp1 a) % 16 < 8 ∧ (bp2 (bp1 a) + bp2 (bp1 a) / 16) % 16 = on8 a ∧ on8 a ≤ 8 := by decide +kernel
theorem st1 {a b c : Nat} (ha : a < 256) (hb : b < 256) (hc : c < 256) : nI (a + 256 * b + 65536 * c) - (nI ((a + 256 * b + 65536 * c) / 2) &&& (1431655765 : Int32)) = nI (bp1 a + 256 * bp1 b + 65536 * bp1 c) := by
  rw [show (1431655765 : Int32) = nI 1431655765 from rfl, nI_and (by omega) (by omega)]
  have e : (a + 256 * b + 65536 * c) / 2 = (a / 2 + 128 * (b % 2)) + 256 * (b / 2 + 128 * (c % 2)) + 65536 * (c / 2 + 128 * 0) := by omega
  have t := and3 (a := a / 2 + 128 * (b % 2)) (b := b / 2 + 128 * (c % 2)) (c := c / 2 + 128 * 0) (p := 85) (q := 85) (r := 85) (by omega) (by omega) (by omega) (by omega) (by omega) (by omega) 85
  obtain ⟨q1, q2⟩ := bA a ha (b % 2) (by omega)
  obtain ⟨q3, q4⟩ := bA b hb (c % 2) (by omega)
  obtain ⟨q5, q6⟩ := bA c hc 0 (by omega)
  rw [← e, q1, q3, q5] at t
  rw [show (1431655765 : Nat) = 85 + 256 * 85 + 65536 * 85 + 16777216 * 85 from rfl, t]
  clear t e q1 q3 q5
  unfold bp1
  generalize (a / 2) &&& 85 = x at *
  generalize (b / 2) &&& 85 = y at *
  generalize (c / 2) &&& 85 = z at *
  rw [pk_sub (by omega)]
  congr 1
  omega
theorem st2 {p q r : Nat} (ha : p < 256) (hb : q < 256) (hc : r < 256) : (nI (p + 256 * q + 65536 * r) &&& (858993459 : Int32)) + (nI ((p + 256 * q + 65536 * r) / 4) &&& (858993459 : Int32)) = nI (bp2 p + 256 * bp2 q + 65536 * bp2 r) := by
  rw [show (858993459 : Int32) = nI 858993459 from rfl, nI_and (by omega) (by omega), nI_and (by omega) (by omega), nI_add]
  have e : (p + 256 * q + 65536 * r) / 4 = (p / 4 + 64 * (q % 4)) + 256 * (q / 4 + 64 * (r % 4)) + 65536 * (r / 4 + 64 * 0) := by omega
  have t1 := and3 (a := p) (b := q) (c := r) (p := 51) (q := 51) (r := 51) (by omega) (by omega) (by omega) (by omega) (by omega) (by omega) 51
  have t2 := and3 (a := p / 4 + 64 * (q % 4)) (b := q / 4 + 64 * (r % 4)) (c := r / 4 + 64 * 0) (p := 51) (q := 51) (r := 51) (by omega) (by omega) (by omega) (by omega) (by omega) (by omega) 51
  have q1 := (bB p ha (q % 4) (by omega)).1
  have q2 := (bB q hb (r % 4) (by omega)).1
  have q3 := (bB r hc 0 (by omega)).1
  rw [← e, q1, q2, q3] at t2
  rw [show (858993459 : Nat) = 51 + 256 * 51 + 65536 * 51 + 16777216 * 51 from rfl, t1, t2]
  unfold bp2
  congr 1
  clear t1 t2 e q1 q2 q3
  generalize (p / 4) &&& 51 = x
  generalize (q / 4) &&& 51 = y
  generalize (r / 4) &&& 51 = z
  generalize p &&& 51 = x'
  generalize q &&& 51 = y'
  generalize r &&& 51 = z'
  omega
theorem st3 {u v w : Nat} (hu : u < 80) (hv : v < 80) (hw : w < 80) (hv2 : v % 16 < 8) (hw2 : w % 16 < 8) : (nI (u + 256 * v + 65536 * w) + nI ((u + 256 * v + 65536 * w) / 16)) &&& (252645135 : Int32) = nI ((u + u / 16) % 16 + 256 * ((v + v / 16) % 16) + 65536 * ((w + w / 16) % 16)) := by
  rw [nI_add, show (252645135 : Int32) = nI 252645135 from rfl, nI_and (by omega) (by omega)]
  have e : u + 256 * v + 65536 * w + (u + 256 * v + 65536 * w) / 16 = (u + u / 16 + 16 * (v % 16)) + 256 * (v + v / 16 + 16 * (w % 16)) + 65536 * (w + w / 16 + 16 * 0) := by omega
  have t1 := and3 (a := u + u / 16 + 16 * (v % 16)) (b := v + v / 16 + 16 * (w % 16)) (c := w + w / 16 + 16 * 0) (p := 15) (q := 15) (r := 15) (by omega) (by omega) (by omega) (by omega) (by omega) (by omega) 15
  rw [← e] at t1
  rw [show (252645135 : Nat) = 15 + 256 * 15 + 65536 * 15 + 16777216 * 15 from rfl, t1, bC u hu (v % 16) hv2, bC v hv (w % 16) hw2, bC w hw 0 (by omega)]
theorem popc {x : Nat} (hx : x < 16777216) : f_J_bitCount (nI x) = nI (onN x) := by
  have u1 : ∀ n : Nat, n < 2 ^ 31 → ((nI n).toUInt32 >>> ((1 : Int32).toUInt32 &&& Int32.toUInt32 31)).toInt32 = nI (n / 2) := fun n hn => pk_ushrN (by omega) 1 1 (by decide)
  have u2 : ∀ n : Nat, n < 2 ^ 31 → ((nI n).toUInt32 >>> ((2 : Int32).toUInt32 &&& Int32.toUInt32 31)).toInt32 = nI (n / 4) := fun n hn => pk_ushrN (by omega) 2 2 (by decide)
  have u4 : ∀ n : Nat, n < 2 ^ 31 → ((nI n).toUInt32 >>> ((4 : Int32).toUInt32 &&& Int32.toUInt32 31)).toInt32 = nI (n / 16) := fun n hn => pk_ushrN (by omega) 4 4 (by decide)
  have u8 : ∀ n : Nat, n < 2 ^ 31 → ((nI n).toUInt32 >>> ((8 : Int32).toUInt32 &&& Int32.toUInt32 31)).toInt32 = nI (n / 256) := fun n hn => pk_ushrN (by omega) 8 8 (by decide)
  have u16 : ∀ n : Nat, n < 2 ^ 31 → ((nI n).toUInt32 >>> ((16 : Int32).toUInt32 &&& Int32.toUInt32 31)).toInt32 = nI (n / 65536) := fun n hn => pk_ushrN (by omega) 16 16 (by decide)
  have eon : ∀ a b c : Nat, a < 256 → b < 256 → c < 256 → onN (a + 256 * b + 65536 * c) = on8 a + on8 b + on8 c := by
    intro a b c ha hb hc
    unfold onN
    rw [show (a + 256 * b + 65536 * c) % 256 = a by omega, show (a + 256 * b + 65536 * c) / 256 % 256 = b by omega, show (a + 256 * b + 65536 * c) / 65536 % 256 = c by omega]
  have key : ∀ a b c : Nat, a < 256 → b < 256 → c < 256 → f_J_bitCount (nI (a + 256 * b + 65536 * c)) = nI (onN (a + 256 * b + 65536 * c)) := by
    intro a b c ha hb hc
    obtain ⟨a1, a2, a3, a4, a5⟩ := bD a ha
    obtain ⟨b1, b2', b3, b4, b5⟩ := bD b hb
    obtain ⟨c1, c2, c3, c4, c5⟩ := bD c hc
    have s1 := st1 ha hb hc
    have s2 := st2 a1 b1 c1
    have s3 := st3 a2 b2' c2 b3 c3
    rw [a4, b4, c4] at s3
    rw [eon a b c ha hb hc]
    have v1 := u1 (a + 256 * b + 65536 * c) (by omega)
    have v2 := u2 (bp1 a + 256 * bp1 b + 65536 * bp1 c) (by omega)
    have v4 := u4 (bp2 (bp1 a) + 256 * bp2 (bp1 b) + 65536 * bp2 (bp1 c)) (by omega)
    have v8 := u8 (on8 a + 256 * on8 b + 65536 * on8 c) (by omega)
    have v16 := u16 ((on8 a + 256 * on8 b + 65536 * on8 c) + (on8 a + 256 * on8 b + 65536 * on8 c) / 256) (by omega)
    clear a1 b1 c1 a2 b2' c2 a3 b3 c3 a4 b4 c4
    unfold f_J_bitCount
    rw [v1, s1, v2, s2, v4, s3, v8, nI_add, v16, nI_add, pk_andN (by omega) 6 (by decide)]
    congr 1
    clear v1 s1 v2 s2 v4 s3 v8 v16 u1 u2 u4 u8 u16 eon
    generalize on8 a = h at *
    generalize on8 b = i at *
    generalize on8 c = j at *
    have e1 : (h + 256 * i + 65536 * j) / 256 = i + 256 * j := by omega
    rw [e1]
    have e2 : (h + 256 * i + 65536 * j + (i + 256 * j)) / 65536 = j := by omega
    rw [e2]
    have e3 : h + 256 * i + 65536 * j + (i + 256 * j) + j = (h + i + j) + 64 * (4 * i + 1024 * j + 4 * j) := by omega
    rw [e3, show (2 : Nat) ^ 6 = 64 from rfl, Nat.add_mul_mod_self_left]
    omega
  have := key (x % 256) (x / 256 % 256) (x / 65536) (by omega) (by omega) (by omega)
  rwa [show x % 256 + 256 * (x / 256 % 256) + 65536 * (x / 65536) = x by omega] at this
