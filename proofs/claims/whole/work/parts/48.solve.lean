/-! ===== the reference's solving ===== -/
/-- the reference's own object -/
def mF (K : Nat → Int) : List Value := [.int (zI (K 0)), .ref 35, .int (zI (K 2)), .int (zI (K 3)), .int (zI (K 4)), .int (zI (K 5)), .int (zI (K 6)), .int (zI (K 7)), .int (zI (K 8)), .int (zI (K 9)), .ref 36, .ref 37, .ref 38, .int (zI (K 13)), .ref 39, .ref 40, .ref 41, .ref 42, .int (zI (K 18)), .ref 43, .ref 44, .ref 45, .int (zI (K 22)), .ref 46, .ref 47]
abbrev mO (K : Nat → Int) : MC := oB 11 (mF K)
theorem m_on {h : MH} {K : Nat → Int} (M : h.1 34 = mO K) {α : Type} (x : Option α) : onc h (some 34) 11 x = x := onc_o M
theorem m_best {h : MH} {K : Nat → Int} (M : h.1 34 = mO K) : gfr h (some 34) [11] 23 = some (some 46) := gfr_o M rfl rfl
def sumN (f : Nat → Int) : Nat → Int
  | 0 => 0
  | n + 1 => sumN f n + f n
theorem sumN_up (f : Nat → Int) (k : Nat) (x : Int) : ∀ n, sumN (upI f k x) n = sumN f n + (if k < n then x - f k else 0)
  | 0 => by simp [sumN]
  | n + 1 => by
    unfold sumN
    rw [sumN_up f k x n]
    by_cases c : k < n
    · rw [if_pos c, if_pos (by omega), upI_n _ _ (by omega)]; omega
    · rw [if_neg c]
      by_cases c2 : k = n
      · rw [if_pos (by omega), ← c2, upI_s]; omega
      · rw [if_neg (by omega), upI_n _ _ (by omega)]; omega
theorem sumN_r (f : Nat → Int) (M : Int) : ∀ n, (∀ k, k < n → 0 ≤ f k ∧ f k ≤ M) → 0 ≤ sumN f n ∧ sumN f n ≤ n * M
  | 0, _ => by unfold sumN; omega
  | n + 1, h => by
    have i := sumN_r f M n (fun k hk => h k (by omega))
    have := h n (by omega)
    unfold sumN
    rw [show ((n + 1 : Nat) : Int) * M = n * M + M by rw [Int.natCast_add, Int.add_mul]; omega]
    omega
/-- a way of n moves from node k into T that takes c MINUTES -/
def Wt (v : Nat → Int) (less : Int) (T : Int → Prop) : Nat → Int → Int → Prop
  | 0 => fun k c => T k ∧ c = 0
  | n + 1 => fun k c => ∃ (i : Nat) (m k' c' : Int), (i : Int) < v 4 ∧ 0 ≤ m ∧ m < 8 ∧ eV v i m less k = some k' ∧ Wt v less T n k' c' ∧ c = c' + vMin v i m
def Cl (v : Nat → Int) (less : Int) (b : Nat → Int) (k : Int) (i : Nat) (m : Int) : Prop := 0 < b k.toNat → ∀ k', eV v i m less k = some k' → b k.toNat ≤ b k'.toNat + vMin v i m
/-- what stays true of best -/
def Jb (v : Nat → Int) (less : Int) (T : Int → Prop) (b : Nat → Int) : Prop :=
  (∀ k : Nat, k < 576 → 0 ≤ b k ∧ b k ≤ 100000000) ∧ (∀ k : Nat, k < 576 → T k → b k = 0) ∧ ∀ k : Nat, k < 576 → b k < 100000000 → ∃ n, Wt v less T n k (b k)
theorem eV_r {v : Nat → Int} (W : Wv v) {i : Nat} {m less k k' : Int} (h1 : 0 ≤ k) (h2 : k < 576) (h : eV v i m less k = some k') : 0 ≤ k' ∧ k' < 576 := by
  unfold eV at h
  cases hg : goV (ptV v k) i m less with
  | none => rw [hg] at h; cases h
  | some w =>
    rw [hg] at h
    have hw := goV_W (ptV_W W h1 h2) (by unfold ptV; rw [vSet_17]; omega) hg
    cases h
    exact ndV_r hw.1
theorem eV_mk {v : Nat → Int} {i : Nat} {m less k : Int} (h : mk (v (5 + i)) m = false) : eV v i m less k = none := by
  unfold eV goV ptV
  rw [vSet_0 _ _ _ _ (by omega) (by omega) (by omega), h]
  rfl
/-- either nothing has changed and what was looked at is closed, or something got less -/
def Rs (b : Nat → Int) (mo : Int32) (b' : Nat → Int) (mo' : Int32) (C : Prop) : Prop := (b' = b ∧ mo' = mo ∧ C) ∨ (mo' = 1 ∧ sumN b' 576 < sumN b 576)
theorem Rs.tr {b b1 b2 : Nat → Int} {mo mo1 mo2 : Int32} {C C1 C2 : Prop} (hm : mo = 0 ∨ mo = 1) (A : Rs b mo b1 mo1 C1) (B : Rs b1 mo1 b2 mo2 C2) (hC : C1 → C2 → b2 = b → C) (hB : mo1 = 1 → b2 = b1 → mo2 = mo1 → True) : Rs b mo b2 mo2 C := by
  rcases A with ⟨a1, a2, a3⟩ | ⟨a1, a2⟩
  · rcases B with ⟨e1, e2, e3⟩ | ⟨e1, e2⟩
    · exact Or.inl ⟨e1.trans a1, e2.trans a2, hC a3 e3 (e1.trans a1)⟩
    · exact Or.inr ⟨e1, by rw [a1] at e2; exact e2⟩
  · rcases B with ⟨e1, e2, e3⟩ | ⟨e1, e2⟩
    · exact Or.inr ⟨e2.trans a1, by rw [e1]; exact a2⟩
    · exact Or.inr ⟨e1, by omega⟩
section
variable {v : Nat → Int} {less : Int} {T : Int → Prop} {F : Nat} {K : Nat → Int} {a : Nat}
/-- one of the innermost steps -/
theorem p177 (W : Wv v) (k71 : (Option Nat) → (Option Nat) → Int32 → Int32 → MH → (Option (Int32 × MH))) (k82 : (Option Nat) → (Option Nat) → Int32 → Int32 → Int32 → MH → (Option (Int32 × MH))) (k93 : (Option Nat) → (Option Nat) → Int32 → Int32 → Int32 → Int32 → MH → (Option (Int32 × MH))) (k104 : (Option Nat) → (Option Nat) → Int32 → Int32 → Int32 → Int32 → Int32 → MH → (Option (Int32 × MH)))
    {g : MH} (M : g.1 34 = mO K) {b : Nat → Int} (B : g.1 46 = aZ 576 b) {mo : Int32} (hm : mo = 0 ∨ mo = 1) {k : Nat} (hk : k < 576) (i : Nat) {m : Nat} (hm8 : m < 8) {its : Int} (h1 : 0 ≤ its) (h2 : its ≤ 200000000) (hb : 0 ≤ b k ∧ b k ≤ 100000000) :
    b_M_solves_177 F k71 k82 k93 k104 (some 34) (some a) (zI less) mo (zI k) (zI i) (zI m) (zI its) g = k104 (some 34) (some a) (zI less) (if its < b k then 1 else mo) (zI k) (zI i) (zI ((m + 1 : Nat) : Int)) (mj_up g 46 (aZ 576 (if its < b k then upI b k its else b))) := by
  have e201 : ∀ s0 : Int32, b_M_solves_201 F k71 k82 k93 k104 (some 34) (some a) (zI less) (zI k) (zI i) (zI m) (zI its) s0 g = k104 (some 34) (some a) (zI less) s0 (zI k) (zI i) (zI ((m + 1 : Nat) : Int)) (mj_up g 46 (aZ 576 (if its < b k then upI b k its else b))) := by
    intro s0
    unfold b_M_solves_201 b_M_solves_233 b_M_solves_234
    rw [m_best M, bd, aldZ B (by omega) (by omega) (by omega)]
    simp only [bd, Int.toNat_natCast]
    rw [astZ B (by omega) (by omega) (by omega) (by omega), astZ B (by omega) (by omega) (by omega) (by omega)]
    simp only [bd, Int.toNat_natCast]
    simp (disch := omega) only [zI_le, l1, zI_add]
    by_cases c : its < b k
    · rw [if_neg (by omega), if_pos c]; rfl
    · rw [if_pos (by omega), if_neg c, upI_id]; rfl
  unfold b_M_solves_177 b_M_solves_196
  rw [m_best M]
  simp only [bd, e201]
  rw [aldZ B (by omega) (by omega) (by omega)]
  simp only [bd, Int.toNat_natCast]
  simp (disch := omega) only [zI_le]
  rcases hm with rfl | rfl
  · rw [if_pos rfl]
    by_cases c : its < b k
    · rw [if_neg (by omega), if_pos c]
    · rw [if_pos (by omega), if_neg c]
  · rw [if_neg (by decide)]
    congr 1
    split <;> rfl
set_option maxHeartbeats 1000000 in
theorem p104 (W : Wv v) (hl1 : 0 ≤ less) (hl2 : less ≤ 100) (ha : 3 ≤ a) (ha6 : a ≠ 46) (ha4 : a ≠ 34) (k71 : (Option Nat) → (Option Nat) → Int32 → Int32 → MH → (Option (Int32 × MH))) (k82 : (Option Nat) → (Option Nat) → Int32 → Int32 → Int32 → MH → (Option (Int32 × MH))) (k93 : (Option Nat) → (Option Nat) → Int32 → Int32 → Int32 → Int32 → MH → (Option (Int32 × MH)))
    {k : Nat} (hk : k < 576) {i : Nat} (hi : (i : Int) < v 4) : ∀ (d m fu : Nat) (g : MH) (b : Nat → Int) (mo : Int32), m + d = 8 → d < fu → g.1 34 = mO K → g.1 a = aZ 42 v → g.1 46 = aZ 576 b → Jb v less T b → (mo = 0 ∨ mo = 1) →
      ∃ (b' : Nat → Int) (mo' : Int32), Jb v less T b' ∧ (mo' = 0 ∨ mo' = 1) ∧ Rs b mo b' mo' (∀ q : Nat, m ≤ q → q < 8 → Cl v less b k i q) ∧
        b_M_solves_104 F k71 k82 k93 fu (some 34) (some a) (zI less) mo (zI k) (zI i) (zI m) g = k93 (some 34) (some a) (zI less) mo' (zI k) (zI ((i + 1 : Nat) : Int)) (mj_up g 46 (aZ 576 b')) := by
  intro d
  induction d with
  | zero =>
    intro m fu g b mo hd hf M A B J hm
    obtain ⟨fu, rfl⟩ : ∃ q, fu = q + 1 := ⟨fu - 1, by omega⟩
    refine ⟨b, mo, J, hm, Or.inl ⟨rfl, rfl, fun q h1 h2 => by omega⟩, ?_⟩
    unfold b_M_solves_104
    simp (disch := omega) only [l8, l1, zI_le, zI_add]
    rw [if_pos (by omega), ← B, up_id]
    rfl
  | succ d ih =>
    intro m fu g b mo hd hf M A B J hm
    obtain ⟨fu, rfl⟩ : ∃ q, fu = q + 1 := ⟨fu - 1, by omega⟩
    obtain ⟨j1, j2, j3⟩ := id J
    have jk := j1 k hk
    have hv4 := W.2.2.2.1
    -- what is left of the loop
    have go : ∀ (b1 : Nat → Int) (mo1 : Int32), Jb v less T b1 → (mo1 = 0 ∨ mo1 = 1) → Rs b mo b1 mo1 (Cl v less b k i m) →
        ∃ (b' : Nat → Int) (mo' : Int32), Jb v less T b' ∧ (mo' = 0 ∨ mo' = 1) ∧ Rs b mo b' mo' (∀ q : Nat, m ≤ q → q < 8 → Cl v less b k i q) ∧
          b_M_solves_104 F k71 k82 k93 fu (some 34) (some a) (zI less) mo1 (zI k) (zI i) (zI ((m + 1 : Nat) : Int)) (mj_up g 46 (aZ 576 b1)) = k93 (some 34) (some a) (zI less) mo' (zI k) (zI ((i + 1 : Nat) : Int)) (mj_up g 46 (aZ 576 b')) := by
      intro b1 mo1 J1 hm1 R1
      obtain ⟨b', mo', q1, q2, q3, q4⟩ := ih (m + 1) fu (mj_up g 46 (aZ 576 b1)) b1 mo1 (by omega) (by omega) (by rw [up_get, if_neg (by omega)]; exact M) (by rw [up_get, if_neg ha6]; exact A) (by rw [up_get, if_pos rfl]) J1 hm1
      refine ⟨b', mo', q1, q2, ?_, by rw [q4, up_up]⟩
      rcases R1 with ⟨a1, a2, a3⟩ | ⟨a1, a2⟩
      · subst a1
        subst a2
        rcases q3 with ⟨e1, e2, e3⟩ | e
        · exact Or.inl ⟨e1, e2, fun q z1 z2 => by
            by_cases c : q = m
            · subst c; exact a3
            · exact e3 q (by omega) z2⟩
        · exact Or.inr e
      · rcases q3 with ⟨e1, e2, e3⟩ | ⟨e1, e2⟩
        · exact Or.inr ⟨e2.trans a1, by rw [e1]; exact a2⟩
        · exact Or.inr ⟨e1, by omega⟩
    have same : Cl v less b k i m → ∃ (b' : Nat → Int) (mo' : Int32), Jb v less T b' ∧ (mo' = 0 ∨ mo' = 1) ∧ Rs b mo b' mo' (∀ q : Nat, m ≤ q → q < 8 → Cl v less b k i q) ∧
          b_M_solves_104 F k71 k82 k93 fu (some 34) (some a) (zI less) mo (zI k) (zI i) (zI ((m + 1 : Nat) : Int)) g = k93 (some 34) (some a) (zI less) mo' (zI k) (zI ((i + 1 : Nat) : Int)) (mj_up g 46 (aZ 576 b')) := by
      intro c
      have := go b mo J hm (Or.inl ⟨rfl, rfl, c⟩)
      rwa [← B, up_id] at this
    unfold b_M_solves_104
    rw [m_best M]
    simp only [bd]
    rw [aldZ B (by omega) (by omega) (by omega)]
    simp only [bd, Int.toNat_natCast]
    rw [l5, zI_add, ald_n A (zI (5 + (i : Int))) (5 + i) (congrArg zI (by omega)) (by omega) (by decide)]
    simp only [bd]
    have w5 := W.2.2.2.2.1 i hi
    rw [show (fZ v (5 + i)) = zI (v (5 + i)) from rfl, s_M_makes (v (5 + i)) m w5.1 w5.2.1 (by omega) (by omega)]
    simp (disch := omega) only [l8, l1, l0, zI_le]
    rw [if_neg (by omega)]
    have e234 : ∀ mo : Int32, ∀ g : MH, b_M_solves_234 F k71 k82 k93 (b_M_solves_104 F k71 k82 k93 fu) (some 34) (some a) (zI less) mo (zI k) (zI i) (zI m) g = b_M_solves_104 F k71 k82 k93 fu (some 34) (some a) (zI less) mo (zI k) (zI i) (zI ((m + 1 : Nat) : Int)) g := by
      intro mo g
      unfold b_M_solves_234
      rw [l1, zI_add]
      rfl
    by_cases c0 : b k ≤ 0
    · rw [if_pos c0, e234]
      exact same (fun z => by rw [Int.toNat_natCast] at z; omega)
    · rw [if_neg c0]
      cases hmk : mk (v (5 + i)) m with
      | false =>
        rw [if_pos rfl, e234]
        exact same (fun z k' hk' => by rw [eV_mk hmk] at hk'; cases hk')
      | true =>
        rw [if_neg (by decide), s_M_behind A W ha hi (by omega) (by omega) hl1 hl2 (by omega) (by omega)]
        simp only [bd]
        have key : ∀ its : Int, 0 ≤ its → its ≤ 200000000 → (∀ k', eV v i m less k = some k' → its = b k'.toNat + vMin v i m) → (its < b k → ∃ n, Wt v less T n k its) → (its < b k → 0 ≤ its) →
            ∃ (b' : Nat → Int) (mo' : Int32), Jb v less T b' ∧ (mo' = 0 ∨ mo' = 1) ∧ Rs b mo b' mo' (∀ q : Nat, m ≤ q → q < 8 → Cl v less b k i q) ∧
              b_M_solves_177 F k71 k82 k93 (b_M_solves_104 F k71 k82 k93 fu) (some 34) (some a) (zI less) mo (zI k) (zI i) (zI m) (zI its) g = k93 (some 34) (some a) (zI less) mo' (zI k) (zI ((i + 1 : Nat) : Int)) (mj_up g 46 (aZ 576 b')) := by
          intro its i1 i2 i3 i4 i5
          rw [p177 W k71 k82 k93 _ M B hm hk i (by omega) i1 i2 jk]
          by_cases c : its < b k
          · rw [if_pos c, if_pos c]
            refine go (upI b k its) 1 ⟨fun q hq => ?_, fun q hq hT => ?_, fun q hq hF => ?_⟩ (Or.inr rfl) (Or.inr ⟨rfl, ?_⟩)
            · by_cases e : q = k
              · rw [e, upI_s]; omega
              · rw [upI_n _ _ e]; exact j1 q hq
            · by_cases e : q = k
              · rw [e] at hT; rw [j2 k hk hT] at c0; omega
              · rw [upI_n _ _ e]; exact j2 q hq hT
            · by_cases e : q = k
              · rw [e, upI_s]; exact i4 c
              · rw [upI_n _ _ e] at hF ⊢; exact j3 q hq hF
            · rw [sumN_up, if_pos hk]; omega
          · rw [if_neg c, if_neg c]
            refine go b mo J hm (Or.inl ⟨rfl, rfl, fun z k' hk' => ?_⟩)
            rw [Int.toNat_natCast]
            have := i3 k' hk'
            omega
        cases he : eV v i m less k with
        | none =>
          unfold noV
          dsimp only
          rw [if_pos rfl, lE8]
          exact key 100000000 (by omega) (by omega) (fun k' hk' => by rw [he] at hk'; cases hk') (fun z => by omega) (fun z => by omega)
        | some k' =>
          have hr := eV_r W (by omega) (by omega) he
          have hb' := j1 k'.toNat (by omega)
          have hmi := vMin_r W hi m
          have hne : ¬ (zI (noV (some k')) = -1000000) := by
            unfold noV
            simp (disch := omega) only [lN0, zI_eq]
            omega
          rw [if_neg hne, m_best M]
          unfold noV
          dsimp only
          simp only [bd]
          rw [aldZ B hr.1 (by omega) (by omega)]
          simp only [bd]
          rw [s_M_min A W hi (by omega) (by omega)]
          simp only [bd]
          rw [zI_add]
          refine key (b k'.toNat + vMin v i m) (by omega) (by omega) (fun k2 h2 => by rw [he] at h2; cases h2; rfl) (fun z => ?_) (fun z => by omega)
          obtain ⟨n, hn⟩ := j3 k'.toNat (by omega) (by omega)
          rw [Int.toNat_of_nonneg hr.1] at hn
          exact ⟨n + 1, i, m, k', b k'.toNat, hi, by omega, by omega, he, hn, rfl⟩
end
