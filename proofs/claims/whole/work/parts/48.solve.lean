/-! ===== the reference's solving ===== -/
/-- the reference's own object -/
def mF (K : Nat → Int) : List Value := [.int (zI (K 0)), .ref 35, .int (zI (K 2)), .int (zI (K 3)), .int (zI (K 4)), .int (zI (K 5)), .int (zI (K 6)), .int (zI (K 7)), .int (zI (K 8)), .int (zI (K 9)), .ref 36, .ref 37, .ref 38, .int (zI (K 13)), .ref 39, .ref 40, .ref 41, .ref 42, .int (zI (K 18)), .ref 43, .ref 44, .ref 45, .int (zI (K 22)), .ref 46, .ref 47]
abbrev mO (K : Nat → Int) : MC := oB 11 (mF K)
theorem m_on {h : MH} {K : Nat → Int} (M : h.1 34 = mO K) {α : Type} (x : Option α) : onc h (some 34) 11 x = x := onc_o M
theorem m_best {h : MH} {K : Nat → Int} (M : h.1 34 = mO K) : gfr h (some 34) [11] 23 = some (some 46) := gfr_o M rfl rfl
theorem aldN {h : MH} {a n : Nat} {f : Nat → Int} (H : h.1 a = aZ n f) {k : Nat} (h2 : k < n) (h3 : n < 2147483648) : ald h (some a) 0 (zI (k : Int)) = some (zI (f k)) := by
  have := aldZ H (k := (k : Int)) (by omega) (by omega) h3
  rwa [Int.toNat_natCast] at this
theorem astN {h : MH} {a n : Nat} {f : Nat → Int} (H : h.1 a = aZ n f) (ha : 3 ≤ a) {k : Nat} {x : Int} (h2 : k < n) (h3 : n < 2147483648) : ast h (some a) 0 (zI (k : Int)) (zI x) = some (mj_up h a (aZ n (upI f k x))) := by
  have := astZ H ha (k := (k : Int)) (x := x) (by omega) (by omega) h3
  rwa [Int.toNat_natCast] at this
def sumN (f : Nat → Int) : Nat → Int
  | 0 => 0
  | n + 1 => sumN f n + f n
theorem sumN_up (f : Nat → Int) (k : Nat) (x : Int) : ∀ n, sumN (upI f k x) n = sumN f n + (if k < n then x - f k else 0)
  | 0 => by simp [sumN]
  | n + 1 => by
    unfold sumN
    rw [sumN_up f k x n]
    by_cases c : k < n
    · rw [if_pos c, if_pos (by omega), upI_n _ _ (by omega)]; omega
    · rw [if_neg c]
      by_cases c2 : k = n
      · rw [if_pos (by omega), ← c2, upI_s]; omega
      · rw [if_neg (by omega), upI_n _ _ (by omega)]; omega
theorem sumN_r (f : Nat → Int) (M : Int) : ∀ n, (∀ k, k < n → 0 ≤ f k ∧ f k ≤ M) → 0 ≤ sumN f n ∧ sumN f n ≤ n * M
  | 0, _ => by unfold sumN; omega
  | n + 1, h => by
    have i := sumN_r f M n (fun k hk => h k (by omega))
    have := h n (by omega)
    unfold sumN
    rw [show ((n + 1 : Nat) : Int) * M = n * M + M by rw [Int.natCast_add, Int.add_mul]; omega]
    omega
/-- a way of n moves from node k into T that takes c MINUTES -/
def Wt (v : Nat → Int) (less : Int) (T : Int → Prop) : Nat → Int → Int → Prop
  | 0 => fun k c => T k ∧ c = 0
  | n + 1 => fun k c => ∃ (i : Nat) (m k' c' : Int), (i : Int) < v 4 ∧ 0 ≤ m ∧ m < 8 ∧ eV v i m less k = some k' ∧ Wt v less T n k' c' ∧ c = c' + vMin v i m
def Cl (v : Nat → Int) (less : Int) (b : Nat → Int) (k : Int) (i : Nat) (m : Int) : Prop := 0 < b k.toNat → ∀ k', eV v i m less k = some k' → b k.toNat ≤ b k'.toNat + vMin v i m
/-- what stays true of best -/
def Jb (v : Nat → Int) (less : Int) (T : Int → Prop) (b : Nat → Int) : Prop :=
  (∀ k : Nat, k < 576 → 0 ≤ b k ∧ b k ≤ 100000000) ∧ (∀ k : Nat, k < 576 → T k → b k = 0) ∧ ∀ k : Nat, k < 576 → b k < 100000000 → ∃ n, Wt v less T n k (b k)
theorem eV_r {v : Nat → Int} (W : Wv v) {i : Nat} {m less k k' : Int} (h1 : 0 ≤ k) (h2 : k < 576) (h : eV v i m less k = some k') : 0 ≤ k' ∧ k' < 576 := by
  unfold eV at h
  cases hg : goV (ptV v k) i m less with
  | none => rw [hg] at h; cases h
  | some w =>
    rw [hg] at h
    have hw := goV_W (ptV_W W h1 h2) (by unfold ptV; rw [vSet_17]; omega) hg
    cases h
    exact ndV_r hw.1
theorem eV_mk {v : Nat → Int} {i : Nat} (hi : i < 4) {m less k : Int} (h : mk (v (5 + i)) m = false) : eV v i m less k = none := by
  unfold eV goV ptV
  rw [vSet_0 (k := 5 + i) _ _ _ _ (by omega) (by omega) (by omega), h]
  rfl
/-- either nothing has changed and what was looked at is closed, or something got less -/
def Rs (b : Nat → Int) (mo : Int32) (b' : Nat → Int) (mo' : Int32) (C : Prop) : Prop := (b' = b ∧ mo' = mo ∧ C) ∨ (mo' = 1 ∧ sumN b' 576 < sumN b 576)
theorem Rs.tr {b b1 b2 : Nat → Int} {mo mo1 mo2 : Int32} {C C1 C2 : Prop} (hm : mo = 0 ∨ mo = 1) (A : Rs b mo b1 mo1 C1) (B : Rs b1 mo1 b2 mo2 C2) (hC : C1 → C2 → b2 = b → C) (hB : mo1 = 1 → b2 = b1 → mo2 = mo1 → True) : Rs b mo b2 mo2 C := by
  rcases A with ⟨a1, a2, a3⟩ | ⟨a1, a2⟩
  · rcases B with ⟨e1, e2, e3⟩ | ⟨e1, e2⟩
    · exact Or.inl ⟨e1.trans a1, e2.trans a2, hC a3 e3 (e1.trans a1)⟩
    · exact Or.inr ⟨e1, by rw [a1] at e2; exact e2⟩
  · rcases B with ⟨e1, e2, e3⟩ | ⟨e1, e2⟩
    · exact Or.inr ⟨e2.trans a1, by rw [e1]; exact a2⟩
    · exact Or.inr ⟨e1, by omega⟩
section
variable {v : Nat → Int} {less : Int} {T : Int → Prop} {F : Nat} {K : Nat → Int} {a : Nat}
/-- one of the innermost steps -/
theorem p177 (W : Wv v) (k71 : (Option Nat) → (Option Nat) → Int32 → Int32 → MH → (Option (Int32 × MH))) (k82 : (Option Nat) → (Option Nat) → Int32 → Int32 → Int32 → MH → (Option (Int32 × MH))) (k93 : (Option Nat) → (Option Nat) → Int32 → Int32 → Int32 → Int32 → MH → (Option (Int32 × MH))) (k104 : (Option Nat) → (Option Nat) → Int32 → Int32 → Int32 → Int32 → Int32 → MH → (Option (Int32 × MH)))
    {g : MH} (M : g.1 34 = mO K) {b : Nat → Int} (B : g.1 46 = aZ 576 b) {mo : Int32} (hm : mo = 0 ∨ mo = 1) {k : Nat} (hk : k < 576) (i : Nat) {m : Nat} (hm8 : m < 8) {its : Int} (h1 : 0 ≤ its) (h2 : its ≤ 200000000) (hb : 0 ≤ b k ∧ b k ≤ 100000000) :
    b_M_solves_177 F k71 k82 k93 k104 (some 34) (some a) (zI less) mo (zI k) (zI i) (zI m) (zI its) g = k104 (some 34) (some a) (zI less) (if its < b k then 1 else mo) (zI k) (zI i) (zI ((m + 1 : Nat) : Int)) (mj_up g 46 (aZ 576 (if its < b k then upI b k its else b))) := by
  have e201 : ∀ s0 : Int32, b_M_solves_201 F k71 k82 k93 k104 (some 34) (some a) (zI less) (zI k) (zI i) (zI m) (zI its) s0 g = k104 (some 34) (some a) (zI less) s0 (zI k) (zI i) (zI ((m + 1 : Nat) : Int)) (mj_up g 46 (aZ 576 (if its < b k then upI b k its else b))) := by
    intro s0
    unfold b_M_solves_201 b_M_solves_233 b_M_solves_234
    simp only [m_best M, bd, aldN B hk (by decide), astN B (by decide) hk (by decide)]
    simp (disch := omega) only [zI_le, l1, zI_add]
    by_cases c : its < b k
    · rw [if_neg (by omega), if_pos c]; rfl
    · rw [if_pos (by omega), if_neg c, upI_id]; rfl
  unfold b_M_solves_177 b_M_solves_196
  rw [m_best M]
  simp only [bd, e201]
  rw [aldZ B (by omega) (by omega) (by omega)]
  simp only [bd, Int.toNat_natCast]
  simp (disch := omega) only [zI_le]
  rcases hm with rfl | rfl
  · rw [if_pos rfl]
    by_cases c : its < b k
    · rw [if_neg (by omega)]
      simp only [if_pos c]
    · rw [if_pos (by omega)]
      simp only [if_neg c]
  · rw [if_neg (by decide)]
    by_cases c : its < b k
    · simp only [if_pos c]
    · simp only [if_neg c]
set_option maxHeartbeats 1000000 in
theorem p104 (W : Wv v) (hl1 : 0 ≤ less) (hl2 : less ≤ 100) (ha : 3 ≤ a) (ha6 : a ≠ 46) (ha4 : a ≠ 34) (k71 : (Option Nat) → (Option Nat) → Int32 → Int32 → MH → (Option (Int32 × MH))) (k82 : (Option Nat) → (Option Nat) → Int32 → Int32 → Int32 → MH → (Option (Int32 × MH))) (k93 : (Option Nat) → (Option Nat) → Int32 → Int32 → Int32 → Int32 → MH → (Option (Int32 × MH)))
    {k : Nat} (hk : k < 576) {i : Nat} (hi : (i : Int) < v 4) : ∀ (d m fu : Nat) (g : MH) (b : Nat → Int) (mo : Int32), m + d = 8 → d < fu → g.1 34 = mO K → g.1 a = aZ 42 v → g.1 46 = aZ 576 b → Jb v less T b → (mo = 0 ∨ mo = 1) →
      ∃ (b' : Nat → Int) (mo' : Int32), Jb v less T b' ∧ (mo' = 0 ∨ mo' = 1) ∧ Rs b mo b' mo' (∀ q : Nat, m ≤ q → q < 8 → Cl v less b k i q) ∧
        b_M_solves_104 F k71 k82 k93 fu (some 34) (some a) (zI less) mo (zI k) (zI i) (zI m) g = k93 (some 34) (some a) (zI less) mo' (zI k) (zI ((i + 1 : Nat) : Int)) (mj_up g 46 (aZ 576 b')) := by
  intro d
  induction d with
  | zero =>
    intro m fu g b mo hd hf M A B J hm
    obtain ⟨fu, rfl⟩ : ∃ q, fu = q + 1 := ⟨fu - 1, by omega⟩
    refine ⟨b, mo, J, hm, Or.inl ⟨rfl, rfl, fun q h1 h2 => by omega⟩, ?_⟩
    unfold b_M_solves_104
    simp (disch := omega) only [l8, l1, zI_le, zI_add]
    rw [if_pos (by omega), ← B, up_id]
    rfl
  | succ d ih =>
    intro m fu g b mo hd hf M A B J hm
    obtain ⟨fu, rfl⟩ : ∃ q, fu = q + 1 := ⟨fu - 1, by omega⟩
    obtain ⟨j1, j2, j3⟩ := id J
    have jk := j1 k hk
    have hv4 := W.2.2.2.1
    -- what is left of the loop
    have go : ∀ (b1 : Nat → Int) (mo1 : Int32), Jb v less T b1 → (mo1 = 0 ∨ mo1 = 1) → Rs b mo b1 mo1 (Cl v less b k i m) →
        ∃ (b' : Nat → Int) (mo' : Int32), Jb v less T b' ∧ (mo' = 0 ∨ mo' = 1) ∧ Rs b mo b' mo' (∀ q : Nat, m ≤ q → q < 8 → Cl v less b k i q) ∧
          b_M_solves_104 F k71 k82 k93 fu (some 34) (some a) (zI less) mo1 (zI k) (zI i) (zI ((m + 1 : Nat) : Int)) (mj_up g 46 (aZ 576 b1)) = k93 (some 34) (some a) (zI less) mo' (zI k) (zI ((i + 1 : Nat) : Int)) (mj_up g 46 (aZ 576 b')) := by
      intro b1 mo1 J1 hm1 R1
      obtain ⟨b', mo', q1, q2, q3, q4⟩ := ih (m + 1) fu (mj_up g 46 (aZ 576 b1)) b1 mo1 (by omega) (by omega) (by rw [up_get, if_neg (by omega)]; exact M) (by rw [up_get, if_neg ha6]; exact A) (by rw [up_get, if_pos rfl]) J1 hm1
      refine ⟨b', mo', q1, q2, ?_, by rw [q4, up_up]⟩
      rcases R1 with ⟨a1, a2, a3⟩ | ⟨a1, a2⟩
      · subst a1
        subst a2
        rcases q3 with ⟨e1, e2, e3⟩ | e
        · exact Or.inl ⟨e1, e2, fun q z1 z2 => by
            by_cases c : q = m
            · subst c; exact a3
            · exact e3 q (by omega) z2⟩
        · exact Or.inr e
      · rcases q3 with ⟨e1, e2, e3⟩ | ⟨e1, e2⟩
        · exact Or.inr ⟨e2.trans a1, by rw [e1]; exact a2⟩
        · exact Or.inr ⟨e1, by omega⟩
    have same : Cl v less b k i m → ∃ (b' : Nat → Int) (mo' : Int32), Jb v less T b' ∧ (mo' = 0 ∨ mo' = 1) ∧ Rs b mo b' mo' (∀ q : Nat, m ≤ q → q < 8 → Cl v less b k i q) ∧
          b_M_solves_104 F k71 k82 k93 fu (some 34) (some a) (zI less) mo (zI k) (zI i) (zI ((m + 1 : Nat) : Int)) g = k93 (some 34) (some a) (zI less) mo' (zI k) (zI ((i + 1 : Nat) : Int)) (mj_up g 46 (aZ 576 b')) := by
      intro c
      have := go b mo J hm (Or.inl ⟨rfl, rfl, c⟩)
      rwa [← B, up_id] at this
    unfold b_M_solves_104
    simp only [m_best M, bd, aldN B hk (by decide)]
    rw [l5, zI_add, ald_n A (zI (5 + (i : Int))) (5 + i) (congrArg zI (by omega)) (by omega) (by decide)]
    simp only [bd]
    have w5 := W.2.2.2.2.1 i hi
    rw [show (fZ v (5 + i)) = zI (v (5 + i)) from rfl, s_M_makes (v (5 + i)) m w5.1 w5.2.1 (by omega) (by omega)]
    have x0 : zI (b k) ≤ 0 ↔ b k ≤ 0 := zI_le (b := 0) (by omega) (by omega) (by omega) (by omega)
    have x8 : (8 : Int32) ≤ zI (m : Int) ↔ 8 ≤ (m : Int) := zI_le (a := 8) (by omega) (by omega) (by omega) (by omega)
    simp only [x0, x8, b2_0]
    rw [if_neg (show ¬ 8 ≤ (m : Int) by omega)]
    have e234 : ∀ mo : Int32, ∀ g : MH, b_M_solves_234 F k71 k82 k93 (b_M_solves_104 F k71 k82 k93 fu) (some 34) (some a) (zI less) mo (zI k) (zI i) (zI m) g = b_M_solves_104 F k71 k82 k93 fu (some 34) (some a) (zI less) mo (zI k) (zI i) (zI ((m + 1 : Nat) : Int)) g := by
      intro mo g
      unfold b_M_solves_234
      rw [l1, zI_add]
      rfl
    by_cases c0 : b k ≤ 0
    · rw [if_pos c0, e234]
      exact same (fun z => by rw [Int.toNat_natCast] at z; omega)
    · rw [if_neg c0]
      cases hmk : mk (v (5 + i)) m with
      | false =>
        rw [if_pos rfl, e234]
        exact same (fun z k' hk' => by rw [eV_mk (by omega) hmk] at hk'; cases hk')
      | true =>
        rw [if_neg (show ¬ true = false by decide), s_M_behind A W ha hi (by omega) (by omega) hl1 hl2 (by omega) (by omega)]
        simp only [bd]
        have key : ∀ its : Int, 0 ≤ its → its ≤ 200000000 → (∀ k', eV v i m less k = some k' → its = b k'.toNat + vMin v i m) → (its < b k → ∃ n, Wt v less T n k its) → (its < b k → 0 ≤ its) →
            ∃ (b' : Nat → Int) (mo' : Int32), Jb v less T b' ∧ (mo' = 0 ∨ mo' = 1) ∧ Rs b mo b' mo' (∀ q : Nat, m ≤ q → q < 8 → Cl v less b k i q) ∧
              b_M_solves_177 F k71 k82 k93 (b_M_solves_104 F k71 k82 k93 fu) (some 34) (some a) (zI less) mo (zI k) (zI i) (zI m) (zI its) g = k93 (some 34) (some a) (zI less) mo' (zI k) (zI ((i + 1 : Nat) : Int)) (mj_up g 46 (aZ 576 b')) := by
          intro its i1 i2 i3 i4 i5
          rw [p177 W k71 k82 k93 _ M B hm hk i (by omega) i1 i2 jk]
          by_cases c : its < b k
          · rw [if_pos c, if_pos c]
            refine go (upI b k its) 1 ⟨fun q hq => ?_, fun q hq hT => ?_, fun q hq hF => ?_⟩ (Or.inr rfl) (Or.inr ⟨rfl, ?_⟩)
            · by_cases e : q = k
              · rw [e, upI_s]; omega
              · rw [upI_n _ _ e]; exact j1 q hq
            · by_cases e : q = k
              · rw [e] at hT; rw [j2 k hk hT] at c0; omega
              · rw [upI_n _ _ e]; exact j2 q hq hT
            · by_cases e : q = k
              · rw [e, upI_s]; exact i4 c
              · rw [upI_n _ _ e] at hF ⊢; exact j3 q hq hF
            · rw [sumN_up, if_pos hk]; omega
          · rw [if_neg c, if_neg c]
            refine go b mo J hm (Or.inl ⟨rfl, rfl, fun z k' hk' => ?_⟩)
            rw [Int.toNat_natCast]
            have := i3 k' hk'
            omega
        cases he : eV v i m less k with
        | none =>
          unfold noV
          dsimp only
          rw [if_pos (show zI (-1000000) = -1000000 from rfl), lE8]
          exact key 100000000 (by omega) (by omega) (fun k' hk' => by rw [he] at hk'; cases hk') (fun z => by omega) (fun z => by omega)
        | some k' =>
          have hr := eV_r W (by omega) (by omega) he
          have hb' := j1 k'.toNat (by omega)
          have hmi := vMin_r W hi m
          have hne : ¬ (zI (noV (some k')) = -1000000) := by
            unfold noV
            simp (disch := omega) only [lN0, zI_eq]
            omega
          rw [if_neg hne, m_best M]
          unfold noV
          dsimp only
          simp only [bd]
          rw [aldZ B hr.1 (by omega) (by omega)]
          simp only [bd]
          rw [s_M_min A W hi (by omega) (by omega)]
          simp only [bd]
          rw [zI_add]
          refine key (b k'.toNat + vMin v i m) (by omega) (by omega) (fun k2 h2 => by rw [he] at h2; cases h2; rfl) (fun z => ?_) (fun z => by omega)
          obtain ⟨n, hn⟩ := j3 k'.toNat (by omega) (by omega)
          rw [Int.toNat_of_nonneg hr.1] at hn
          exact ⟨n + 1, i, m, k', b k'.toNat, hi, by omega, by omega, he, hn, rfl⟩
theorem p93 (W : Wv v) (hF : 100 ≤ F) (hl1 : 0 ≤ less) (hl2 : less ≤ 100) (ha : 3 ≤ a) (ha6 : a ≠ 46) (ha4 : a ≠ 34) (k71 : (Option Nat) → (Option Nat) → Int32 → Int32 → MH → (Option (Int32 × MH))) (k82 : (Option Nat) → (Option Nat) → Int32 → Int32 → Int32 → MH → (Option (Int32 × MH)))
    {k : Nat} (hk : k < 576) : ∀ (d i fu : Nat) (g : MH) (b : Nat → Int) (mo : Int32), ((i : Int) + d = v 4) → d < fu → g.1 34 = mO K → g.1 a = aZ 42 v → g.1 46 = aZ 576 b → Jb v less T b → (mo = 0 ∨ mo = 1) →
      ∃ (b' : Nat → Int) (mo' : Int32), Jb v less T b' ∧ (mo' = 0 ∨ mo' = 1) ∧ Rs b mo b' mo' (∀ p q : Nat, i ≤ p → (p : Int) < v 4 → q < 8 → Cl v less b k p q) ∧
        b_M_solves_93 F k71 k82 fu (some 34) (some a) (zI less) mo (zI k) (zI i) g = k82 (some 34) (some a) (zI less) mo' (zI ((k + 1 : Nat) : Int)) (mj_up g 46 (aZ 576 b')) := by
  intro d
  have w4 := W.2.2.2.1
  induction d with
  | zero =>
    intro i fu g b mo hd hf M A B J hm
    obtain ⟨fu, rfl⟩ : ∃ q, fu = q + 1 := ⟨fu - 1, by omega⟩
    refine ⟨b, mo, J, hm, Or.inl ⟨rfl, rfl, fun p q h1 h2 h3 => by omega⟩, ?_⟩
    unfold b_M_solves_93
    rw [l4, aldZ A (k := 4) (by omega) (by omega) (by omega)]
    simp only [bd]
    rw [show v (4 : Int).toNat = v 4 from rfl]
    simp (disch := omega) only [l1, zI_le, zI_add]
    rw [if_pos (by omega), ← B, up_id]
    rfl
  | succ d ih =>
    intro i fu g b mo hd hf M A B J hm
    obtain ⟨fu, rfl⟩ : ∃ q, fu = q + 1 := ⟨fu - 1, by omega⟩
    unfold b_M_solves_93
    rw [l4, aldZ A (k := 4) (by omega) (by omega) (by omega)]
    simp only [bd]
    rw [show v (4 : Int).toNat = v 4 from rfl]
    simp (disch := omega) only [zI_le]
    rw [if_neg (by omega)]
    obtain ⟨b1, mo1, q1, q2, q3, q4⟩ := p104 (F := F) W hl1 hl2 ha ha6 ha4 k71 k82 (b_M_solves_93 F k71 k82 fu) hk (show (i : Int) < v 4 by omega) 8 0 F g b mo rfl (by omega) M A B J hm
    rw [l0, show (0 : Int) = ((0 : Nat) : Int) from rfl, q4]
    obtain ⟨b2, mo2, r1, r2, r3, r4⟩ := ih (i + 1) fu (mj_up g 46 (aZ 576 b1)) b1 mo1 (by omega) (by omega) (by rw [up_get, if_neg (by decide)]; exact M) (by rw [up_get, if_neg ha6]; exact A) (by rw [up_get, if_pos rfl]) q1 q2
    refine ⟨b2, mo2, r1, r2, ?_, by rw [r4, up_up]⟩
    rcases q3 with ⟨a1, a2, a3⟩ | ⟨a1, a2⟩
    · subst a1
      subst a2
      rcases r3 with ⟨e1, e2, e3⟩ | e
      · exact Or.inl ⟨e1, e2, fun p q z1 z2 z3 => by
          by_cases c : p = i
          · subst c; exact a3 q (by omega) z3
          · exact e3 p q (by omega) z2 z3⟩
      · exact Or.inr e
    · rcases r3 with ⟨e1, e2, e3⟩ | ⟨e1, e2⟩
      · exact Or.inr ⟨e2.trans a1, by rw [e1]; exact a2⟩
      · exact Or.inr ⟨e1, by omega⟩
theorem p82 (W : Wv v) (hF : 100 ≤ F) (hl1 : 0 ≤ less) (hl2 : less ≤ 100) (ha : 3 ≤ a) (ha6 : a ≠ 46) (ha4 : a ≠ 34) (k71 : (Option Nat) → (Option Nat) → Int32 → Int32 → MH → (Option (Int32 × MH))) : ∀ (d k fu : Nat) (g : MH) (b : Nat → Int) (mo : Int32), k + d = 576 → d < fu → g.1 34 = mO K → g.1 a = aZ 42 v → g.1 46 = aZ 576 b → Jb v less T b → (mo = 0 ∨ mo = 1) →
      ∃ (b' : Nat → Int) (mo' : Int32), Jb v less T b' ∧ (mo' = 0 ∨ mo' = 1) ∧ Rs b mo b' mo' (∀ j p q : Nat, k ≤ j → j < 576 → (p : Int) < v 4 → q < 8 → Cl v less b j p q) ∧
        b_M_solves_82 F k71 fu (some 34) (some a) (zI less) mo (zI k) g = k71 (some 34) (some a) (zI less) mo' (mj_up g 46 (aZ 576 b')) := by
  intro d
  have w4 := W.2.2.2.1
  induction d with
  | zero =>
    intro k fu g b mo hd hf M A B J hm
    obtain ⟨fu, rfl⟩ : ∃ q, fu = q + 1 := ⟨fu - 1, by omega⟩
    refine ⟨b, mo, J, hm, Or.inl ⟨rfl, rfl, fun j p q h1 h2 h3 => by omega⟩, ?_⟩
    unfold b_M_solves_82
    simp (disch := omega) only [l576, zI_le]
    rw [if_pos (by omega), ← B, up_id]
  | succ d ih =>
    intro k fu g b mo hd hf M A B J hm
    obtain ⟨fu, rfl⟩ : ∃ q, fu = q + 1 := ⟨fu - 1, by omega⟩
    unfold b_M_solves_82
    simp (disch := omega) only [l576, zI_le]
    rw [if_neg (by omega)]
    obtain ⟨b1, mo1, q1, q2, q3, q4⟩ := p93 (F := F) W hF hl1 hl2 ha ha6 ha4 k71 (b_M_solves_82 F k71 fu) (show k < 576 by omega) (v 4).toNat 0 F g b mo (by omega) (by omega) M A B J hm
    rw [l0, show (0 : Int) = ((0 : Nat) : Int) from rfl, q4]
    obtain ⟨b2, mo2, r1, r2, r3, r4⟩ := ih (k + 1) fu (mj_up g 46 (aZ 576 b1)) b1 mo1 (by omega) (by omega) (by rw [up_get, if_neg (by decide)]; exact M) (by rw [up_get, if_neg ha6]; exact A) (by rw [up_get, if_pos rfl]) q1 q2
    refine ⟨b2, mo2, r1, r2, ?_, by rw [r4, up_up]⟩
    rcases q3 with ⟨a1, a2, a3⟩ | ⟨a1, a2⟩
    · subst a1
      subst a2
      rcases r3 with ⟨e1, e2, e3⟩ | e
      · exact Or.inl ⟨e1, e2, fun j p q z1 z2 z3 z4 => by
          by_cases c : j = k
          · subst c; exact a3 p q (by omega) z3 z4
          · exact e3 j p q (by omega) z2 z3 z4⟩
      · exact Or.inr e
    · rcases r3 with ⟨e1, e2, e3⟩ | ⟨e1, e2⟩
      · exact Or.inr ⟨e2.trans a1, by rw [e1]; exact a2⟩
      · exact Or.inr ⟨e1, by omega⟩
/-- all is closed -/
def ClA (v : Nat → Int) (less : Int) (b : Nat → Int) : Prop := ∀ j p q : Nat, j < 576 → (p : Int) < v 4 → q < 8 → Cl v less b j p q
theorem p71e (W : Wv v) (fu : Nat) {g : MH} {b : Nat → Int} (M : g.1 34 = mO K) (A : g.1 a = aZ 42 v) (B : g.1 46 = aZ 576 b) (J : Jb v less T b) : b_M_solves_71 F (fu + 1) (some 34) (some a) (zI less) 0 g = some (zI (if b (ndV v).toNat = 100000000 then -1000000 else b (ndV v).toNat), g) := by
  have hn := ndV_r W
  have hb := J.1 (ndV v).toNat (by omega)
  unfold b_M_solves_71
  rw [if_pos rfl]
  simp only [m_best M, bd, s_M_node A W]
  rw [aldZ B hn.1 (by omega) (by decide)]
  simp only [bd]
  simp (disch := omega) only [lE8, zI_eq]
  by_cases c : b (ndV v).toNat = 100000000
  · rw [if_pos c, if_pos c]; rfl
  · rw [if_neg c, if_neg c]
theorem p71 (W : Wv v) (hF : 1000 ≤ F) (hl1 : 0 ≤ less) (hl2 : less ≤ 100) (ha : 3 ≤ a) (ha6 : a ≠ 46) (ha4 : a ≠ 34) : ∀ (N fu : Nat) (g : MH) (b : Nat → Int), sumN b 576 ≤ N → N + 2 < fu → g.1 34 = mO K → g.1 a = aZ 42 v → g.1 46 = aZ 576 b → Jb v less T b →
      ∃ (b' : Nat → Int), Jb v less T b' ∧ ClA v less b' ∧ b_M_solves_71 F fu (some 34) (some a) (zI less) 1 g = some (zI (if b' (ndV v).toNat = 100000000 then -1000000 else b' (ndV v).toNat), mj_up g 46 (aZ 576 b')) := by
  intro N
  induction N with
  | zero =>
    intro fu g b hS hf M A B J
    obtain ⟨fu, rfl⟩ : ∃ q, fu = q + 2 := ⟨fu - 2, by omega⟩
    unfold b_M_solves_71
    rw [if_neg (show ¬ (1 : Int32) = 0 by decide)]
    obtain ⟨b1, mo1, q1, q2, q3, q4⟩ := p82 (F := F) W (by omega) hl1 hl2 ha ha6 ha4 (b_M_solves_71 F (fu + 1)) 576 0 F g b 0 (by omega) (by omega) M A B J (Or.inl rfl)
    rw [l0, show (0 : Int) = ((0 : Nat) : Int) from rfl]
    rw [show zI ((0 : Nat) : Int) = (0 : Int32) from rfl] at q4 ⊢
    rw [q4]
    rcases q3 with ⟨a1, a2, a3⟩ | ⟨a1, a2⟩
    · subst a1
      subst a2
      refine ⟨b1, J, fun j p q z1 z2 z3 => a3 j p q (by omega) z1 z2 z3, ?_⟩
      rw [p71e W _ (b := b1) (by rw [up_get, if_neg (by decide)]; exact M) (by rw [up_get, if_neg ha6]; exact A) (by rw [up_get, if_pos rfl]) J]
    · have := (sumN_r b1 100000000 576 (fun k hk => q1.1 k hk)).1
      omega
  | succ N ih =>
    intro fu g b hS hf M A B J
    obtain ⟨fu, rfl⟩ : ∃ q, fu = q + 2 := ⟨fu - 2, by omega⟩
    unfold b_M_solves_71
    rw [if_neg (show ¬ (1 : Int32) = 0 by decide)]
    obtain ⟨b1, mo1, q1, q2, q3, q4⟩ := p82 (F := F) W (by omega) hl1 hl2 ha ha6 ha4 (b_M_solves_71 F (fu + 1)) 576 0 F g b 0 (by omega) (by omega) M A B J (Or.inl rfl)
    rw [l0, show (0 : Int) = ((0 : Nat) : Int) from rfl]
    rw [show zI ((0 : Nat) : Int) = (0 : Int32) from rfl] at q4 ⊢
    rw [q4]
    rcases q3 with ⟨a1, a2, a3⟩ | ⟨a1, a2⟩
    · subst a1
      subst a2
      refine ⟨b1, J, fun j p q z1 z2 z3 => a3 j p q (by omega) z1 z2 z3, ?_⟩
      rw [p71e W _ (b := b1) (by rw [up_get, if_neg (by decide)]; exact M) (by rw [up_get, if_neg ha6]; exact A) (by rw [up_get, if_pos rfl]) J]
    · subst a1
      obtain ⟨b2, r1, r2, r3⟩ := ih (fu + 1) (mj_up g 46 (aZ 576 b1)) b1 (by omega) (by omega) (by rw [up_get, if_neg (by decide)]; exact M) (by rw [up_get, if_neg ha6]; exact A) (by rw [up_get, if_pos rfl]) q1
      exact ⟨b2, r1, r2, by rw [r3, up_up]⟩
/-- the nodes that are sought -/
def Tg (cell turn : Int) (k : Int) : Prop := k / 3 % 8 = turn ∧ (cell = -1000000 ∨ k / 24 = cell)
def iniB (cell turn : Int) (j : Nat) : Int := if (j : Int) / 3 % 8 = turn ∧ (cell = -1000000 ∨ (j : Int) / 24 = cell) then 0 else 100000000
theorem p3_ {cell turn : Int} (hc : cell = -1000000 ∨ (0 ≤ cell ∧ cell < 24)) (ht : 0 ≤ turn ∧ turn < 8) : ∀ (d k fu : Nat) (g : MH) (b : Nat → Int), k + d = 576 → d < fu → g.1 34 = mO K → g.1 46 = aZ 576 b → (∀ j, j < k → b j = iniB cell turn j) →
      ∃ (b' : Nat → Int), (∀ j, j < 576 → b' j = iniB cell turn j) ∧ b_M_solves_3 F fu (some 34) (some a) (zI cell) (zI turn) (zI less) (zI k) g = b_M_solves_71 F F (some 34) (some a) (zI less) 1 (mj_up g 46 (aZ 576 b')) := by
  intro d
  induction d with
  | zero =>
    intro k fu g b hd hf M B hb
    obtain ⟨fu, rfl⟩ : ∃ q, fu = q + 1 := ⟨fu - 1, by omega⟩
    refine ⟨b, fun j hj => hb j (by omega), ?_⟩
    unfold b_M_solves_3
    simp (disch := omega) only [l576, zI_le]
    rw [if_pos (by omega), ← B, up_id]
  | succ d ih =>
    intro k fu g b hd hf M B hb
    obtain ⟨fu, rfl⟩ : ∃ q, fu = q + 1 := ⟨fu - 1, by omega⟩
    have step : ∀ s0 : Int32, ∀ x : Int, (if s0 = 0 then (100000000 : Int) else 0) = x → x = iniB cell turn k →
        ∃ (b' : Nat → Int), (∀ j, j < 576 → b' j = iniB cell turn j) ∧ b_M_solves_42 F (b_M_solves_3 F fu) (some 34) (some a) (zI cell) (zI turn) (zI less) (zI k) s0 g = b_M_solves_71 F F (some 34) (some a) (zI less) 1 (mj_up g 46 (aZ 576 b')) := by
      intro s0 x hx hi
      obtain ⟨b', r1, r2⟩ := ih (k + 1) fu (mj_up g 46 (aZ 576 (upI b k x))) (upI b k x) (by omega) (by omega) (by rw [up_get, if_neg (by decide)]; exact M) (by rw [up_get, if_pos rfl]) (fun j hj => by
        by_cases e : j = k
        · rw [e, upI_s, hi]
        · rw [upI_n _ _ e]; exact hb j (by omega))
      refine ⟨b', r1, ?_⟩
      have e61 : b_M_solves_61 F (b_M_solves_3 F fu) (some 34) (some a) (zI cell) (zI turn) (zI less) (zI k) (some 46) (zI k) (zI x) g = b_M_solves_71 F F (some 34) (some a) (zI less) 1 (mj_up g 46 (aZ 576 b')) := by
        unfold b_M_solves_61
        rw [astN B (by decide) (by omega) (by decide)]
        simp only [bd]
        rw [l1, zI_add]
        rw [up_up] at r2
        exact r2
      unfold b_M_solves_42
      simp only [m_best M, bd]
      by_cases c : s0 = 0
      · rw [if_pos c] at hx ⊢
        rw [lE8, hx, e61]
      · rw [if_neg c] at hx ⊢
        rw [l0, hx, e61]
    unfold b_M_solves_3 b_M_solves_37 b_M_solves_41
    rw [l3, l8, l24, zI_div (a := (k : Int)) (by omega) (by omega) (by omega) (by omega), zI_div (a := (k : Int)) (by omega) (by omega) (by omega) (by omega), zI_rem (a := (k : Int) / 3) (by omega) (by omega) (by omega) (by omega)]
    simp (disch := omega) only [l576, lN0, zI_le, zI_eq]
    rw [if_neg (show ¬ (576 : Int) ≤ (k : Int) by omega)]
    by_cases c1 : (k : Int) / 3 % 8 = turn
    · rw [if_pos c1]
      by_cases c2 : cell = -1000000
      · rw [if_pos c2]
        exact step 1 0 rfl (by unfold iniB; rw [if_pos ⟨c1, Or.inl c2⟩])
      · rw [if_neg c2]
        by_cases c3 : (k : Int) / 24 = cell
        · rw [if_pos c3]
          exact step 1 0 rfl (by unfold iniB; rw [if_pos ⟨c1, Or.inr c3⟩])
        · rw [if_neg c3]
          exact step 0 100000000 rfl (by unfold iniB; rw [if_neg (fun z => z.2.elim c2 c3)])
    · rw [if_neg c1]
      exact step 0 100000000 rfl (by unfold iniB; rw [if_neg (fun z => c1 z.1)])
theorem s_M_solves (W : Wv v) (hF : 1000000000000 ≤ F) (hl1 : 0 ≤ less) (hl2 : less ≤ 100) (ha : 3 ≤ a) (ha6 : a ≠ 46) (ha4 : a ≠ 34) {cell turn : Int} (hc : cell = -1000000 ∨ (0 ≤ cell ∧ cell < 24)) (ht : 0 ≤ turn ∧ turn < 8) {h : MH} {b : Nat → Int} (M : h.1 34 = mO K) (A : h.1 a = aZ 42 v) (B : h.1 46 = aZ 576 b) :
    ∃ (b' : Nat → Int), Jb v less (Tg cell turn) b' ∧ ClA v less b' ∧ f_M_solves F (some 34) (some a) (zI cell) (zI turn) (zI less) h = some (zI (if b' (ndV v).toNat = 100000000 then -1000000 else b' (ndV v).toNat), mj_up h 46 (aZ 576 b')) := by
  obtain ⟨b1, q1, q2⟩ := p3_ (F := F) (K := K) (a := a) (less := less) hc ht 576 0 F h b rfl (by omega) M B (fun j hj => by omega)
  have J1 : Jb v less (Tg cell turn) b1 := by
    refine ⟨fun k hk => ?_, fun k hk hT => ?_, fun k hk hb => ⟨0, ?_⟩⟩
    · rw [q1 k hk]; unfold iniB; split <;> omega
    · rw [q1 k hk]; exact if_pos hT
    · rw [q1 k hk] at hb ⊢
      unfold iniB at hb ⊢
      split at hb
      · rename_i c; exact ⟨c, by rw [if_pos c]⟩
      · omega
  have hS := sumN_r b1 100000000 576 (fun k hk => J1.1 k hk)
  obtain ⟨b2, r1, r2, r3⟩ := p71 (F := F) (K := K) W (by omega) hl1 hl2 ha ha6 ha4 57600000000 F (mj_up h 46 (aZ 576 b1)) b1 (by omega) (by omega) (by rw [up_get, if_neg (by decide)]; exact M) (by rw [up_get, if_neg ha6]; exact A) (by rw [up_get, if_pos rfl]) J1
  refine ⟨b2, r1, r2, ?_⟩
  unfold f_M_solves
  rw [l0, show (0 : Int) = ((0 : Nat) : Int) from rfl, q2, r3, up_up]
end
