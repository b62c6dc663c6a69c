/-! ===== walks over the nodes ===== -/
def pj (le k : Int) : Int := if le = -1 then 3 * (k / 3) else k
def leV (v : Nat → Int) : Int := if v 16 = 0 ∧ 0 < v 1 then v 1 - 1 else -1
theorem leV_r {v : Nat → Int} (W : Wv v) : -1 ≤ leV v ∧ leV v ≤ 7 := by
  have := W.1
  unfold leV
  split <;> omega
theorem pj_r {le k : Int} (h1 : 0 ≤ k) (h2 : k < 576) : 0 ≤ pj le k ∧ pj le k < 576 := by unfold pj; split <;> omega
theorem pj_pj (le k : Int) : pj le (pj le k) = pj le k := by unfold pj; split <;> omega
theorem pj_3 (le k : Int) : pj le k / 3 = k / 3 := by unfold pj; split <;> omega
theorem eV_eq (v : Nat → Int) {i : Nat} (hi : i < 4) (m less k : Int) : eV v i m less k =
    if mk (v (5 + i)) m && vFits v (mX (k / 24 % 6) (k / 3 % 8) m) (mY (k / 24 / 6) (k / 3 % 8) m) (tT (k / 3 % 8) m) (vLift (v (5 + i)) (vD v less)) then
      some (24 * vMid v (k % 3 + 1) (v 1) (mX (k / 24 % 6) (k / 3 % 8) m) (mY (k / 24 / 6) (k / 3 % 8) m) (tT (k / 3 % 8) m) (vD v less) + 3 * tT (k / 3 % 8) m + (k % 3 + 1) % 3)
    else none := by
  have f1 : ptV v k 14 = k / 24 := vSet_14 _ _ _ _
  have f2 : ptV v k 15 = k / 3 % 8 := vSet_15 _ _ _ _
  have f3 : ptV v k 17 = k % 3 := vSet_17 _ _ _ _
  have f0 : ∀ q, q ≠ 14 → q ≠ 15 → q ≠ 17 → ptV v k q = v q := fun q a b c => vSet_0 _ _ _ _ a b c
  have f4 : vFits (ptV v k) = vFits v := by
    funext x y t d
    unfold vFits vFree
    rw [f0 13 (by decide) (by decide) (by decide), f0 _ (by omega) (by omega) (by omega), f0 _ (by omega) (by omega) (by omega), f0 _ (by omega) (by omega) (by omega)]
  have f5 : vD (ptV v k) less = vD v less := by
    unfold vD
    rw [f0 2 (by decide) (by decide) (by decide), f0 16 (by decide) (by decide) (by decide), f0 3 (by decide) (by decide) (by decide)]
  have f6 : ∀ md w x y t d, vMid (ptV v k) md w x y t d = vMid v md w x y t d := by
    intro md w x y t d
    unfold vMid vBlow
    rw [f4, f0 16 (by decide) (by decide) (by decide)]
  unfold eV goV
  rw [f0 (5 + i) (by omega) (by omega) (by omega), f0 1 (by decide) (by decide) (by decide), f1, f2, f3, f4, f5, f6]
  split
  · unfold ndV
    rw [Option.map_some, vSet_14, vSet_15, vSet_17]
  · rfl
theorem eV_q {v : Nat → Int} (hb : leV v = -1) {i : Nat} (hi : i < 4) {m less k j k' : Int} (h : k / 3 = j / 3) (he : eV v i m less k = some k') : ∃ j', eV v i m less j = some j' ∧ j' / 3 = k' / 3 := by
  have e1 : k / 24 = j / 24 := by omega
  rw [eV_eq v hi] at he ⊢
  rw [e1, h] at he
  split at he
  · rename_i c
    rw [if_pos c]
    refine ⟨_, rfl, ?_⟩
    have nb : ∀ md x y t d, vMid v md (v 1) x y t d = 6 * y + x := by
      intro md x y t d
      unfold vMid
      rw [if_neg ?_]
      intro z
      unfold vBlow at z
      rw [Bool.and_eq_true, Bool.and_eq_true, decide_eq_true_eq, decide_eq_true_eq] at z
      unfold leV at hb
      rw [if_pos ⟨z.2.1, z.1.2⟩] at hb
      omega
    have e := Option.some.inj he
    rw [nb] at e ⊢
    omega
  · cases he
theorem eV_pj {v : Nat → Int} {i : Nat} (hi : i < 4) {m less k j k' : Int} (h : pj (leV v) k = pj (leV v) j) (he : eV v i m less k = some k') : ∃ j', eV v i m less j = some j' ∧ pj (leV v) j' = pj (leV v) k' := by
  by_cases c : leV v = -1
  · have h3 : k / 3 = j / 3 := by rw [← pj_3 (leV v) k, ← pj_3 (leV v) j, h]
    obtain ⟨j', e1, e2⟩ := eV_q c hi h3 he
    refine ⟨j', e1, ?_⟩
    unfold pj
    rw [if_pos c, if_pos c, e2]
  · unfold pj at h
    rw [if_neg c, if_neg c] at h
    exact ⟨k', by rw [← h]; exact he, rfl⟩
/-- a walk of n moves from k to k' that takes c MINUTES -/
def Pw (v : Nat → Int) (less : Int) : Nat → Int → Int → Int → Prop
  | 0 => fun k c k' => k' = k ∧ c = 0
  | n + 1 => fun k c k' => ∃ (i : Nat) (m q c' : Int), (i : Int) < v 4 ∧ 0 ≤ m ∧ m < 8 ∧ Pw v less n k c' q ∧ eV v i m less q = some k' ∧ c = c' + vMin v i m
theorem Pw_r {v : Nat → Int} (W : Wv v) {less : Int} : ∀ (n : Nat) {k c k' : Int}, 0 ≤ k → k < 576 → Pw v less n k c k' → 0 ≤ k' ∧ k' < 576
  | 0, k, c, k', h1, h2, h => by
    obtain ⟨e, -⟩ := h
    omega
  | n + 1, k, c, k', h1, h2, h => by
    obtain ⟨i, m, q, c', -, -, -, hp, he, -⟩ := h
    have := Pw_r W n h1 h2 hp
    exact eV_r W this.1 this.2 he
theorem Pw_Wt {v : Nat → Int} {less : Int} {T : Int → Prop} : ∀ (n : Nat) {k c k' : Int}, Pw v less n k c k' → ∀ (j : Nat) (c2 : Int), Wt v less T j k' c2 → ∃ r, Wt v less T r k (c + c2)
  | 0, k, c, k', h, j, c2, hw => by
    obtain ⟨e1, e2⟩ := h
    rw [e1] at hw
    exact ⟨j, by rw [e2, Int.zero_add]; exact hw⟩
  | n + 1, k, c, k', h, j, c2, hw => by
    obtain ⟨i, m, q, c', h1, h2, h3, hp, he, hc⟩ := h
    obtain ⟨r, hr⟩ := Pw_Wt n hp (j + 1) (c2 + vMin v i m) ⟨i, m, k', c2, h1, h2, h3, he, hw, rfl⟩
    exact ⟨r, by rw [hc, show c' + vMin v i m + c2 = c' + (c2 + vMin v i m) by omega]; exact hr⟩
theorem Wt_nn {v : Nat → Int} (W : Wv v) {less : Int} {T : Int → Prop} : ∀ (n : Nat) {k c : Int}, Wt v less T n k c → 0 ≤ c
  | 0, k, c, h => by
    obtain ⟨-, e⟩ := h
    omega
  | n + 1, k, c, h => by
    obtain ⟨i, m, k', c', h1, -, -, -, hw, hc⟩ := h
    have := Wt_nn W n hw
    have := vMin_r W h1 m
    omega
theorem Wt_lb {v : Nat → Int} (W : Wv v) {less : Int} {T : Int → Prop} {b : Nat → Int} (J : Jb v less T b) (C : ClA v less b) : ∀ (n : Nat) {k c : Int}, 0 ≤ k → k < 576 → Wt v less T n k c → b k.toNat ≤ c
  | 0, k, c, h1, h2, h => by
    obtain ⟨hT, e⟩ := h
    have := J.2.1 k.toNat (by omega) (by rw [Int.toNat_of_nonneg h1]; exact hT)
    omega
  | n + 1, k, c, h1, h2, h => by
    obtain ⟨i, m, k', c', a1, a2, a3, he, hw, hc⟩ := h
    have hr := eV_r W h1 h2 he
    have ih := Wt_lb W J C n hr.1 hr.2 hw
    have hm := vMin_r W a1 m
    have hb := J.1 k'.toNat (by omega)
    by_cases c0 : 0 < b k.toNat
    · have := C k.toNat i m.toNat (by omega) a1 (by omega) (by rw [Int.toNat_natCast]; exact c0) k' (by rw [Int.toNat_of_nonneg h1, Int.toNat_of_nonneg a2]; exact he)
      rw [Int.toNat_natCast, Int.toNat_of_nonneg a2] at this
      omega
    · omega
/-- a walk of the class's search: n + 1 moves from st, its end, its MINUTES, its first move -/
def Fw (v : Nat → Int) (less st : Int) : Nat → Int → Int → Int → Prop
  | 0 => fun k c q => ∃ (i : Nat) (m k' : Int), (i : Int) < v 4 ∧ 0 ≤ m ∧ m < 8 ∧ eV v i m less st = some k' ∧ pj (leV v) k' = k ∧ c = vMin v i m ∧ q = 10 * i + m
  | n + 1 => fun k c q => ∃ (i : Nat) (m k0 c0 k' : Int), (i : Int) < v 4 ∧ 0 ≤ m ∧ m < 8 ∧ Fw v less st n k0 c0 q ∧ eV v i m less k0 = some k' ∧ pj (leV v) k' = k ∧ c = c0 + vMin v i m
theorem Fw_Pw {v : Nat → Int} (W : Wv v) {less x : Int} (h1 : 0 ≤ x) (h2 : x < 576) : ∀ (n : Nat) {k c q : Int}, Fw v less (pj (leV v) x) n k c q → ∃ (i : Nat) (m x1 c' k' : Int), (i : Int) < v 4 ∧ 0 ≤ m ∧ m < 8 ∧ eV v i m less x = some x1 ∧ q = 10 * i + m ∧ Pw v less n x1 c' k' ∧ pj (leV v) k' = k ∧ c = vMin v i m + c'
  | 0, k, c, q, h => by
    obtain ⟨i, m, k', a1, a2, a3, he, e1, e2, e3⟩ := h
    have w4 := W.2.2.2.1
    obtain ⟨x1, f1, f2⟩ := eV_pj (show i < 4 by omega) (pj_pj (leV v) x) he
    exact ⟨i, m, x1, 0, x1, a1, a2, a3, f1, e3, ⟨rfl, rfl⟩, by rw [f2]; exact e1, by omega⟩
  | n + 1, k, c, q, h => by
    obtain ⟨i, m, k0, c0, k', a1, a2, a3, hf, he, e1, e2⟩ := h
    have w4 := W.2.2.2.1
    obtain ⟨i', m', x1, c', k'', b1, b2, b3, b4, b5, b6, b7, b8⟩ := Fw_Pw W h1 h2 n hf
    obtain ⟨j', f1, f2⟩ := eV_pj (show i < 4 by omega) (show pj (leV v) k0 = pj (leV v) k'' by rw [← b7, pj_pj]) he
    exact ⟨i', m', x1, c' + vMin v i m, j', b1, b2, b3, b4, b5, ⟨i, m, k'', c', a1, a2, a3, b6, f1, rfl⟩, by rw [f2]; exact e1, by omega⟩
/-- all moves from s are looked at -/
def Cs (v : Nat → Int) (less st : Int) (mi fi : Nat → Int) (s : Int) : Prop := ∀ (i : Nat) (m k' : Int), (i : Int) < v 4 → 0 ≤ m → m < 8 → eV v i m less s = some k' → mi (pj (leV v) k').toNat ≤ mi s.toNat + vMin v i m ∧ (mi (pj (leV v) k').toNat = mi s.toNat + vMin v i m → fi (pj (leV v) k').toNat ≤ if s = st then 10 * i + m else fi s.toNat)
/-- what the class's search has found: M MINUTES far, all (M is 1000000000) or until a turn 'enough' is come to -/
def Ex (v : Nat → Int) (less enough M : Int) (mi fi : Nat → Int) : Prop :=
  (mi (pj (leV v) (ndV v)).toNat = 0 ∧ fi (pj (leV v) (ndV v)).toNat = -1000000) ∧
  (∀ s : Nat, s < 576 → 0 ≤ mi s ∧ mi s ≤ 1000000) ∧
  (∀ s : Nat, s < 576 → mi s < 1000000 → mi s ≤ 12000 ∧ pj (leV v) s = s ∧ ((s : Int) = pj (leV v) (ndV v) ∨ 0 < mi s ∧ ∃ n, Fw v less (pj (leV v) (ndV v)) n s (mi s) (fi s))) ∧
  (∀ s : Nat, s < 576 → mi s < M → mi s < 1000000 → Cs v less (pj (leV v) (ndV v)) mi fi s) ∧
  (M = 1000000000 ∨ ((∃ u : Nat, u < 576 ∧ mi u = M ∧ M < 1000000 ∧ (u : Int) / 3 % 8 = enough) ∧ ∀ s : Nat, s < 576 → (s : Int) / 3 % 8 = enough → M ≤ mi s))
theorem Wt_up {v : Nat → Int} (W : Wv v) {less enough M : Int} {mi fi : Nat → Int} (E : Ex v less enough M mi fi) {T : Int → Prop} : ∀ (n : Nat) {k c : Int}, Wt v less T n k c → 0 ≤ k → k < 576 → ∀ d : Int, 0 < d → mi (pj (leV v) k).toNat ≤ d → mi (pj (leV v) k).toNat < 1000000 → d + c ≤ M →
    ∃ k', T k' ∧ 0 ≤ k' ∧ k' < 576 ∧ mi (pj (leV v) k').toNat < 1000000 ∧ mi (pj (leV v) k').toNat ≤ d + c ∧ (mi (pj (leV v) k').toNat = d + c → mi (pj (leV v) k).toNat = d ∧ fi (pj (leV v) k').toNat ≤ fi (pj (leV v) k).toNat)
  | 0, k, c, h, h1, h2, d, d0, d1, d2, d3 => by
    obtain ⟨hT, e⟩ := h
    exact ⟨k, hT, h1, h2, d2, by omega, fun z => ⟨by omega, Int.le_refl _⟩⟩
  | n + 1, k, c, h, h1, h2, d, d0, d1, d2, d3 => by
    obtain ⟨i, m, k1, c', a1, a2, a3, he, hw, hc⟩ := h
    have w4 := W.2.2.2.1
    have hm := vMin_r W a1 m
    have hc' := Wt_nn W n hw
    have hr := eV_r W h1 h2 he
    have hp := pj_r (le := leV v) h1 h2
    obtain ⟨e1, e2, e3, e4, e5⟩ := id E
    obtain ⟨j', f1, f2⟩ := eV_pj (show i < 4 by omega) (pj_pj (leV v) k).symm he
    have hS := e4 (pj (leV v) k).toNat (by omega) (by omega) d2
    rw [Int.toNat_of_nonneg hp.1] at hS
    obtain ⟨g1, g2⟩ := hS i m j' a1 a2 a3 f1
    rw [f2] at g1 g2
    have hx := (e3 (pj (leV v) k).toNat (by omega) d2).1
    obtain ⟨k', r1, r2, r3, r4, r5, r6⟩ := Wt_up W E n hw hr.1 hr.2 (d + vMin v i m) (by omega) (by omega) (by omega) (by omega)
    refine ⟨k', r1, r2, r3, r4, by omega, fun z => ?_⟩
    obtain ⟨y1, y2⟩ := r6 (by omega)
    have hd : mi (pj (leV v) k).toNat = d := by omega
    have hne : ¬ pj (leV v) k = pj (leV v) (ndV v) := by
      intro z2
      rw [z2] at hd
      omega
    have := g2 (by omega)
    rw [if_neg hne] at this
    exact ⟨hd, Int.le_trans y2 this⟩
/-- the search's answer is the reference's -/
theorem Sol {v : Nat → Int} (W : Wv v) {less enough M : Int} {mi fi : Nat → Int} (E : Ex v less enough M mi fi) {T : Int → Prop} (hT : ∀ k k' : Int, k / 3 = k' / 3 → T k → T k') (hM : M = 1000000000 ∨ ∀ s : Int, s / 3 % 8 = enough ↔ T s)
    {b : Nat → Int} (J : Jb v less T b) (C : ClA v less b) {f code : Int} (hf1 : ∀ s : Nat, s < 576 → T s → f ≤ mi s) (hf2 : f = 1000000 ∨ ∃ s : Nat, s < 576 ∧ T s ∧ mi s = f ∧ fi s = code) (hf3 : ∀ s : Nat, s < 576 → T s → mi s = f → f < 1000000 → code ≤ fi s) (hf4 : f ≤ 1000000) :
    (f < 1000000 → b (ndV v).toNat = f) ∧ (f = 1000000 → b (ndV v).toNat = 100000000) ∧ (T (ndV v) → f = 0 ∧ code = -1000000) ∧ (f < 1000000 → ¬ T (ndV v) → less = 0 → Fo v b 0 code) := by
  have hx := ndV_r W
  have w4 := W.2.2.2.1
  obtain ⟨x, hxx⟩ : ∃ x, x = ndV v := ⟨_, rfl⟩
  have E' := E
  unfold Ex at E
  rw [← hxx] at E hx ⊢
  obtain ⟨⟨e1, e1'⟩, e2, e3, e4, e5⟩ := E
  have hp := pj_r (le := leV v) hx.1 hx.2
  have hTp : ∀ k, T k → T (pj (leV v) k) := fun k h => hT k _ (pj_3 _ _).symm h
  have hTp' : ∀ k, T (pj (leV v) k) → T k := fun k h => hT _ k (pj_3 _ _) h
  have hfM : f ≤ M := by
    rcases e5 with e | ⟨⟨u, u1, u2, u3, u4⟩, -⟩
    · omega
    · rcases hM with e | hM
      · omega
      · have := hf1 u u1 ((hM u).mp u4)
        omega
  have hbx := J.1 x.toNat (by omega)
  have le1 : f < 1000000 → b x.toNat ≤ f := by
    intro hf
    rcases hf2 with e | ⟨s, s1, s2, s3, s4⟩
    · omega
    · obtain ⟨g1, g2, g3⟩ := e3 s s1 (by omega)
      rcases g3 with g3 | ⟨g3, n, g4⟩
      · have hTx : T x := hTp' x (by rw [← g3]; exact s2)
        have := J.2.1 x.toNat (by omega) (by rw [Int.toNat_of_nonneg hx.1]; exact hTx)
        have := (e2 s s1).1
        omega
      · obtain ⟨i, m, x1, c', k', a1, a2, a3, a4, a5, a6, a7, a8⟩ := Fw_Pw W hx.1 hx.2 n g4
        have hTk : T k' := hTp' k' (by rw [a7]; exact s2)
        obtain ⟨r, hr⟩ := Pw_Wt (T := T) n a6 0 0 ⟨hTk, rfl⟩
        have := Wt_lb W J C (r + 1) hx.1 hx.2 (c := (c' + 0) + vMin v i m) ⟨i, m, x1, c' + 0, a1, a2, a3, a4, hr, rfl⟩
        omega
  have step : ∀ (i : Nat) (m x1 : Int) (n : Nat) (c' : Int), (i : Int) < v 4 → 0 ≤ m → m < 8 → eV v i m less x = some x1 → Wt v less T n x1 c' → vMin v i m + c' ≤ M → ∃ k', T k' ∧ 0 ≤ k' ∧ k' < 576 ∧ mi (pj (leV v) k').toNat < 1000000 ∧ mi (pj (leV v) k').toNat ≤ vMin v i m + c' ∧ (mi (pj (leV v) k').toNat = vMin v i m + c' → fi (pj (leV v) k').toNat ≤ 10 * i + m) := by
    intro i m x1 n c' a1 a2 a3 a4 hw hd
    have hm := vMin_r W a1 m
    have hc' := Wt_nn W n hw
    have hr := eV_r W hx.1 hx.2 a4
    obtain ⟨j', f1, f2⟩ := eV_pj (show i < 4 by omega) (pj_pj (leV v) x).symm a4
    have hS := e4 (pj (leV v) x).toNat (by omega) (by omega) (by omega)
    rw [Int.toNat_of_nonneg hp.1] at hS
    obtain ⟨g1, g2⟩ := hS i m j' a1 a2 a3 f1
    rw [f2, e1] at g1 g2
    obtain ⟨k', r1, r2, r3, r4, r5, r6⟩ := Wt_up W E' n hw hr.1 hr.2 (vMin v i m) (by omega) (by omega) (by omega) (by omega)
    refine ⟨k', r1, r2, r3, r4, r5, fun z => ?_⟩
    obtain ⟨y1, y2⟩ := r6 z
    have := g2 (by omega)
    rw [if_pos rfl] at this
    omega
  have atk : ∀ k' : Int, T k' → 0 ≤ k' → k' < 576 → f ≤ mi (pj (leV v) k').toNat := by
    intro k' r1 r2 r3
    have hq := pj_r (le := leV v) r2 r3
    exact hf1 (pj (leV v) k').toNat (by omega) (by rw [Int.toNat_of_nonneg hq.1]; exact hTp k' r1)
  have T0 : T x → f = 0 ∧ code = -1000000 := by
    intro hTx
    have f0 := hf1 (pj (leV v) x).toNat (by omega) (by rw [Int.toNat_of_nonneg hp.1]; exact hTp x hTx)
    rcases hf2 with e | ⟨s, s1, s2, s3, s4⟩
    · omega
    · have := (e2 s s1).1
      obtain ⟨g1, g2, g3⟩ := e3 s s1 (by omega)
      rcases g3 with g3 | ⟨g3, n, g4⟩
      · rw [← g3, Int.toNat_natCast] at e1'
        exact ⟨by omega, by omega⟩
      · omega
  have ge1 : b x.toNat < 100000000 → b x.toNat < f → False := by
    intro hb hlt
    obtain ⟨n, hn⟩ := J.2.2 x.toNat (by omega) hb
    rw [Int.toNat_of_nonneg hx.1] at hn
    cases n with
    | zero =>
      obtain ⟨hTx, h0⟩ := hn
      have := T0 hTx
      omega
    | succ n =>
      obtain ⟨i, m, x1, c', a1, a2, a3, a4, hw, hc⟩ := hn
      obtain ⟨k', r1, r2, r3, r4, r5, r6⟩ := step i m x1 n c' a1 a2 a3 a4 hw (by omega)
      have := atk k' r1 r2 r3
      omega
  have val : f < 1000000 → b x.toNat = f := by
    intro hf
    have h1 := le1 hf
    by_cases c : b x.toNat < f
    · exact absurd (ge1 (by omega) c) id
    · omega
  refine ⟨val, fun hf => ?_, T0, fun hf hTx hl => ?_⟩
  · by_cases c : b x.toNat < 100000000
    · exfalso
      obtain ⟨n, hn⟩ := J.2.2 x.toNat (by omega) c
      rw [Int.toNat_of_nonneg hx.1] at hn
      cases n with
      | zero =>
        have := T0 hn.1
        omega
      | succ n =>
        obtain ⟨i, m, x1, c', a1, a2, a3, a4, hw, hc⟩ := hn
        rcases e5 with e | ⟨⟨u, u1, u2, u3, u4⟩, -⟩
        · obtain ⟨k', r1, r2, r3, r4, r5, r6⟩ := step i m x1 n c' a1 a2 a3 a4 hw (by omega)
          have := atk k' r1 r2 r3
          omega
        · omega
    · omega
  · subst hl
    have hv := val hf
    have hb0 : 0 < b x.toNat := by
      by_cases c : 0 < b x.toNat
      · exact c
      · exfalso
        obtain ⟨n, hn⟩ := J.2.2 x.toNat (by omega) (by omega)
        rw [Int.toNat_of_nonneg hx.1] at hn
        cases n with
        | zero => exact hTx hn.1
        | succ n =>
          obtain ⟨i, m, x1, c', a1, a2, a3, a4, hw, hc⟩ := hn
          have := vMin_r W a1 m
          have := Wt_nn W n hw
          omega
    rcases hf2 with e | ⟨s, s1, s2, s3, s4⟩
    · omega
    · obtain ⟨g1, g2, g3⟩ := e3 s s1 (by omega)
      rcases g3 with g3 | ⟨g3, n, g4⟩
      · exact absurd (hTp' x (by rw [← g3]; exact s2)) hTx
      · obtain ⟨i, m, x1, c', k', a1, a2, a3, a4, a5, a6, a7, a8⟩ := Fw_Pw W hx.1 hx.2 n g4
        have hTk : T k' := hTp' k' (by rw [a7]; exact s2)
        obtain ⟨r, hr⟩ := Pw_Wt (T := T) n a6 0 0 ⟨hTk, rfl⟩
        have hr1 := eV_r W hx.1 hx.2 a4
        have l1 := Wt_lb W J C r hr1.1 hr1.2 hr
        have l2 := C x.toNat i m.toNat (by omega) a1 (by omega) (by rw [Int.toNat_natCast]; exact hb0) x1 (by rw [Int.toNat_of_nonneg hx.1, Int.toNat_of_nonneg a2]; exact a4)
        rw [Int.toNat_natCast, Int.toNat_of_nonneg a2] at l2
        unfold Fo
        refine Or.inr ⟨i, m.toNat, by omega, a1, by omega, ?_, ?_, ?_⟩
        · unfold Pf
          rw [← hxx, Int.toNat_of_nonneg a2]
          exact ⟨x1, a4, hb0, by omega⟩
        · rw [Int.toNat_of_nonneg a2]; omega
        · intro j q _ z1 z2 z3
          unfold Pf at z3
          rw [← hxx] at z3
          obtain ⟨y1, y2, -, y4⟩ := z3
          have hy := eV_r W hx.1 hx.2 y2
          have hby := J.1 y1.toNat (by omega)
          have hmq := vMin_r W z1 q
          obtain ⟨n2, hn2⟩ := J.2.2 y1.toNat (by omega) (by omega)
          rw [Int.toNat_of_nonneg hy.1] at hn2
          obtain ⟨k2, r1, r2, r3, r4, r5, r6⟩ := step j q y1 n2 (b y1.toNat) z1 (by omega) (by omega) y2 hn2 (by omega)
          have hq := pj_r (le := leV v) r2 r3
          have t1 := atk k2 r1 r2 r3
          have t2 := hf3 (pj (leV v) k2).toNat (by omega) (by rw [Int.toNat_of_nonneg hq.1]; exact hTp k2 r1) (by omega) hf
          have t3 := r6 (by omega)
          omega
