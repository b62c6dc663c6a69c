/-! ===== seen: the reference's way ===== -/
section
variable {F : Nat} {v T K it ww : Nat → Int} {r s w : Int} {n k x i : Nat} {g : MH}
def hW (g : MH) (ww : Nat → Int) : MH := mj_up g 47 (aZ 2880 ww)
theorem hW_n {j : Nat} (h : j ≠ 47) : (hW g ww).1 j = g.1 j := by unfold hW; rw [up_get, if_neg h]
theorem hW_47 : (hW g ww).1 47 = aZ 2880 ww := by unfold hW; rw [up_get, if_pos rfl]
theorem hW_24 (M : g.1 34 = mO K) : gfr (hW g ww) (some 34) [11] 24 = some (some 47) := gfr_o ((hW_n (by decide)).trans M) rfl rfl
theorem hW_15 (M : g.1 34 = mO K) : gfr (hW g ww) (some 34) [11] 15 = some (some 40) := gfr_o ((hW_n (by decide)).trans M) rfl rfl
theorem hW_12 (M : g.1 34 = mO K) : gfr (hW g ww) (some 34) [11] 12 = some (some 38) := gfr_o ((hW_n (by decide)).trans M) rfl rfl
theorem hW_on (M : g.1 34 = mO K) {α : Type} (y : Option α) : onc (hW g ww) (some 34) 11 y = y := onc_o ((hW_n (by decide)).trans M)
theorem hW_st {p : Nat} (hp : p < 2880) (a : Int) : ast (hW g ww) (some 47) 0 (zI (p : Int)) (zI a) = some (hW g (upI ww p a)) := by
  have := astN (hW_47 (g := g) (ww := ww)) (by omega) (k := p) (x := a) hp (by omega)
  rw [this]
  unfold hW
  rw [up_up]
variable (k74 : (Option Nat) → Int32 → Int32 → Int32 → Int32 → Int32 → Int32 → MH → (Option (Int32 × MH))) (k82 : (Option Nat) → Int32 → Int32 → Int32 → Int32 → Int32 → Int32 → Int32 → MH → (Option (Int32 × MH))) (k118 : (Option Nat) → Int32 → Int32 → Int32 → Int32 → Int32 → Int32 → Int32 → Int32 → MH → (Option (Int32 × MH))) (k138 : (Option Nat) → Int32 → Int32 → Int32 → Int32 → Int32 → Int32 → Int32 → Int32 → Int32 → MH → (Option (Int32 × MH)))
def nf (v : Nat → Int) (k x : Nat) (f its : Int) (c : Nat) : Int := if (k = 0 ∧ (x : Int) = ndV v) ∧ f = -1000000 ∧ 0 < its then (c : Int) else f
theorem s276 (M : g.1 34 = mO K) (hk : k < 4) (hx : x < 576) (f a its : Int) (m : Nat) : b_M_seen_276 F k74 k82 k118 k138 (some 34) (zI r) (zI s) (zI (n : Int)) (zI w) (zI (k : Int)) (zI (x : Int)) (zI (i : Int)) (zI (m : Int)) (zI its) (zI f) (hW g (upI ww (576 * k + x) a)) = k138 (some 34) (zI r) (zI s) (zI (n : Int)) (zI w) (zI f) (zI (k : Int)) (zI (x : Int)) (zI (i : Int)) (zI ((m + 1 : Nat) : Int)) (hW g (upI ww (576 * k + x) (a + its))) := by
  have e1 : ald (hW g (upI ww (576 * k + x) a)) (some 47) 0 (zI ((576 * k + x : Nat) : Int)) = some (zI a) := by
    rw [aldN hW_47 (by omega) (by omega), upI_s]
  have e0 : ((576 : Int32) * zI (k : Int)) + zI (x : Int) = zI ((576 * k + x : Nat) : Int) := by
    rw [l576, zI_mul, zI_add]
    rfl
  unfold b_M_seen_276
  rw [hW_24 M, bd, e0, e1, bd, zI_add, hW_st (by omega), bd, upI_upI, l1, zI_add]
  rfl
theorem s232 (M : g.1 34 = mO K) (A : g.1 40 = aZ 42 v) (W : Wv v) (hk : k < 4) (hx : x < 576) (hi : i < 4) {f its a : Int} {m : Nat} (hm : m < 8) (hf : -1000000 ≤ f ∧ f ≤ 100) (hits : 0 ≤ its ∧ its ≤ 2560000) : b_M_seen_232 F k74 k82 k118 k138 (some 34) (zI r) (zI s) (zI (n : Int)) (zI w) (zI f) (zI (k : Int)) (zI (x : Int)) (zI (i : Int)) (zI (m : Int)) (zI its) (hW g (upI ww (576 * k + x) a)) = k138 (some 34) (zI r) (zI s) (zI (n : Int)) (zI w) (zI (nf v k x f its (10 * i + m))) (zI (k : Int)) (zI (x : Int)) (zI (i : Int)) (zI ((m + 1 : Nat) : Int)) (hW g (upI ww (576 * k + x) (a + its))) := by
  have x1 : zI its ≤ (0 : Int32) ↔ its ≤ 0 := zI_le (b := 0) (by omega) (by omega) (by omega) (by omega)
  have x2 : zI (k : Int) = (0 : Int32) ↔ (k : Int) = 0 := zI_eq (b := 0) (by omega) (by omega) (by omega) (by omega)
  have hnd := ndV_r W
  have x3 : zI (x : Int) = zI (ndV v) ↔ (x : Int) = ndV v := zI_eq (by omega) (by omega) (by omega) (by omega)
  have x4 : zI f = (-1000000 : Int32) ↔ f = -1000000 := zI_eq (b := -1000000) (by omega) (by omega) (by omega) (by omega)
  have en : f_M_node (some 40) (hW g (upI ww (576 * k + x) a)) = some (zI (ndV v)) := s_M_node ((hW_n (by decide)).trans A) W
  have e10 : ((10 : Int32) * zI (i : Int)) + zI (m : Int) = zI ((10 * i + m : Nat) : Int) := by
    rw [l10, zI_mul, zI_add]
    rfl
  unfold b_M_seen_232 b_M_seen_274
  simp only [x1, x2]
  by_cases c1 : its ≤ 0
  · rw [if_pos c1, s276 k74 k82 k118 k138 M hk hx]
    unfold nf
    rw [if_neg (fun z => absurd z.2.2 (by omega))]
  · rw [if_neg c1]
    by_cases c2 : (k : Int) = 0
    · rw [if_pos c2, hW_15 M, bd, en, bd]
      simp only [x3, x4]
      by_cases c3 : (x : Int) = ndV v
      · rw [if_pos c3]
        by_cases c4 : f = -1000000
        · rw [if_pos c4, e10, s276 k74 k82 k118 k138 M hk hx]
          unfold nf
          rw [if_pos ⟨⟨by omega, c3⟩, c4, by omega⟩]
        · rw [if_neg c4, s276 k74 k82 k118 k138 M hk hx]
          unfold nf
          rw [if_neg (fun z => c4 z.2.1)]
      · rw [if_neg c3, s276 k74 k82 k118 k138 M hk hx]
        unfold nf
        rw [if_neg (fun z => c3 z.1.2)]
    · rw [if_neg c2, s276 k74 k82 k118 k138 M hk hx]
      unfold nf
      rw [if_neg (fun z => c2 (by omega))]
theorem s138a (hn : n ≤ 4) (M : g.1 34 = mO K) (A : g.1 40 = aZ 42 v) (W : Wv v) (hit : ∀ k : Nat, k < n → ∀ ww, ald (hW g ww) (some 38) 0 ((((40 : Int32) * zI r) + zI s) + zI (k : Int)) = some (zI (T k))) (hTr : ∀ k, -2147483648 ≤ T k ∧ T k < 2147483648) (hk : k < n) (hx : x < 576) (hi : (i : Int) < v 4) (hww : ∀ y : Nat, y < 576 → ww (576 * (k + 1) + y) = wy v T (n - k - 1) (k + 1) y) {f a : Int} {m fu : Nat} (hm : m < 8) (hf : -1000000 ≤ f ∧ f ≤ 100) : b_M_seen_138 F k74 k82 k118 (fu + 1) (some 34) (zI r) (zI s) (zI (n : Int)) (zI w) (zI f) (zI (k : Int)) (zI (x : Int)) (zI (i : Int)) (zI (m : Int)) (hW g (upI ww (576 * k + x) a)) = b_M_seen_138 F k74 k82 k118 fu (some 34) (zI r) (zI s) (zI (n : Int)) (zI w) (zI (nf v k x f (gw v (T k) (wy v T (n - k - 1) (k + 1)) x (10 * i + m)) (10 * i + m))) (zI (k : Int)) (zI (x : Int)) (zI (i : Int)) (zI ((m + 1 : Nat) : Int)) (hW g (upI ww (576 * k + x) (a + gw v (T k) (wy v T (n - k - 1) (k + 1)) x (10 * i + m)))) := by
  have w4 := W.2.2.2.1
  have w5 := W.2.2.2.2.1 i hi
  have x8 : (8 : Int32) ≤ zI (m : Int) ↔ 8 ≤ (m : Int) := zI_le (a := 8) (by omega) (by omega) (by omega) (by omega)
  have A' : (hW g (upI ww (576 * k + x) a)).1 40 = aZ 42 v := (hW_n (by decide)).trans A
  have e5 : ald (hW g (upI ww (576 * k + x) a)) (some 40) 0 (zI (5 + (i : Int))) = some (zI (v (5 + i))) := by
    rw [aldZ A' (by omega) (by omega) (by omega), show (5 + (i : Int)).toNat = 5 + i by omega]
  have emk := s_M_makes (v (5 + i)) (m : Int) w5.1 w5.2.1 (by omega) (by omega)
  have hgr := gw_r (v := v) (t := T k) (f := wy v T (n - k - 1) (k + 1)) (M := 2560000) (by omega) (fun y => wy_b (T := T) w4.2 (d := n - k - 1) (by omega) (k + 1) y) (x : Int) (10 * i + m)
  have hgw : gw v (T k) (wy v T (n - k - 1) (k + 1)) (x : Int) (10 * i + m) = (match eV v i (m : Int) 0 (x : Int) with
      | some y => if y / 24 = T k then wy v T (n - k - 1) (k + 1) y else 0
      | none => 0) := by
    unfold gw
    rw [show (10 * i + m) % 10 = m by omega, show (10 * i + m) / 10 = i by omega, if_pos hm]
    cases eV v i (m : Int) 0 (x : Int) <;> rfl
  have s231 : ∀ (its : Int), its = 0 → b_M_seen_231 F k74 k82 k118 (b_M_seen_138 F k74 k82 k118 fu) (some 34) (zI r) (zI s) (zI (n : Int)) (zI w) (zI f) (zI (k : Int)) (zI (x : Int)) (zI (i : Int)) (zI (m : Int)) (hW g (upI ww (576 * k + x) a)) = b_M_seen_138 F k74 k82 k118 fu (some 34) (zI r) (zI s) (zI (n : Int)) (zI w) (zI (nf v k x f its (10 * i + m))) (zI (k : Int)) (zI (x : Int)) (zI (i : Int)) (zI ((m + 1 : Nat) : Int)) (hW g (upI ww (576 * k + x) (a + its))) := by
    intro its e
    subst e
    unfold b_M_seen_231
    rw [l0]
    exact s232 k74 k82 k118 _ M A W (by omega) hx (by omega) hm hf (by omega)
  have s181 : b_M_seen_181 F k74 k82 k118 (b_M_seen_138 F k74 k82 k118 fu) (some 34) (zI r) (zI s) (zI (n : Int)) (zI w) (zI f) (zI (k : Int)) (zI (x : Int)) (zI (i : Int)) (zI (m : Int)) (zI (noV (eV v i (m : Int) 0 (x : Int)))) (hW g (upI ww (576 * k + x) a)) = b_M_seen_138 F k74 k82 k118 fu (some 34) (zI r) (zI s) (zI (n : Int)) (zI w) (zI (nf v k x f (gw v (T k) (wy v T (n - k - 1) (k + 1)) x (10 * i + m)) (10 * i + m))) (zI (k : Int)) (zI (x : Int)) (zI (i : Int)) (zI ((m + 1 : Nat) : Int)) (hW g (upI ww (576 * k + x) (a + gw v (T k) (wy v T (n - k - 1) (k + 1)) x (10 * i + m)))) := by
    cases he : eV v i (m : Int) 0 (x : Int) with
    | none =>
      rw [he] at hgw
      unfold b_M_seen_181
      rw [show noV none = -1000000 from rfl, if_pos (show zI (-1000000) = (-1000000 : Int32) from rfl)]
      exact s231 _ hgw
    | some y =>
      rw [he] at hgw
      dsimp only at hgw
      have hy := eV_r W (by omega) (by omega) he
      have xn : zI y = (-1000000 : Int32) ↔ y = -1000000 := zI_eq (b := -1000000) (by omega) (by omega) (by omega) (by omega)
      have ed : zI y / (24 : Int32) = zI (y / 24) := by rw [l24, zI_div (by omega) (by omega) (by omega) (by omega)]
      have xd : zI (y / 24) = zI (T k) ↔ y / 24 = T k := zI_eq (by omega) (by omega) (hTr k).1 (hTr k).2
      unfold b_M_seen_181
      rw [show noV (some y) = y from rfl]
      simp only [xn]
      rw [if_neg (by omega), hW_12 M, bd, hit k hk, bd, ed]
      simp only [xd]
      by_cases c : y / 24 = T k
      · rw [if_pos c] at hgw
        have e0 : ((576 : Int32) * (zI (k : Int) + (1 : Int32))) + zI y = zI ((576 * (k + 1) + y.toNat : Nat) : Int) := by
          rw [l576, l1, zI_add, zI_mul, zI_add]
          congr 1
          omega
        have e1 : ald (hW g (upI ww (576 * k + x) a)) (some 47) 0 (zI ((576 * (k + 1) + y.toNat : Nat) : Int)) = some (zI (gw v (T k) (wy v T (n - k - 1) (k + 1)) x (10 * i + m))) := by
          rw [aldN hW_47 (by omega) (by omega), upI_n _ _ (by omega), hww y.toNat (by omega), Int.toNat_of_nonneg hy.1, hgw]
        rw [if_pos c, hW_24 M, bd, e0, e1, bd]
        exact s232 k74 k82 k118 _ M A W (by omega) hx (by omega) hm hf hgr
      · rw [if_neg c] at hgw
        rw [if_neg c]
        exact s231 _ hgw
  conv => lhs; unfold b_M_seen_138
  simp only [x8]
  rw [if_neg (by omega), hW_15 M, bd, l5, zI_add, e5, bd, emk]
  simp only [b2_0]
  cases hmk : mk (v (5 + i)) (m : Int) with
  | false =>
    have he := eV_mk (less := 0) (k := (x : Int)) (show i < 4 by omega) hmk
    rw [he] at s181
    rw [if_pos rfl]
    exact s181
  | true =>
    have hb := s_M_behind A' W (by omega) hi (m := (m : Int)) (less := 0) (k := (x : Int)) (by omega) (by omega) (by omega) (by omega) (by omega) (by omega)
    rw [if_neg (by decide), bd, show f_M_behind (some 40) (zI (x : Int)) (zI (i : Int)) (zI (m : Int)) (0 : Int32) (hW g (upI ww (576 * k + x) a)) = _ from hb, bd]
    exact s181
/-- what the first code is by now -/
def ff (v : Nat → Int) (k x : Nat) (G : Nat → Int) (f0 : Int) (c : Nat) : Int := if k = 0 ∧ (x : Int) = ndV v then fcd G c else f0
theorem ff_r {G : Nat → Int} {f0 : Int} (hf : -1000000 ≤ f0 ∧ f0 ≤ 100) {c : Nat} (hc : c ≤ 40) : -1000000 ≤ ff v k x G f0 c ∧ ff v k x G f0 c ≤ 100 := by
  unfold ff
  have := fcd_r G c
  split <;> omega
theorem ff_st {G : Nat → Int} {f0 : Int} (c : Nat) : nf v k x (ff v k x G f0 c) (G c) c = ff v k x G f0 (c + 1) := by
  unfold nf ff
  by_cases c1 : k = 0 ∧ (x : Int) = ndV v
  · rw [if_pos c1, if_pos c1]
    show _ = if fcd G c = -1000000 ∧ 0 < G c then (c : Int) else fcd G c
    by_cases c2 : fcd G c = -1000000 ∧ 0 < G c
    · rw [if_pos ⟨c1, c2⟩, if_pos c2]
    · rw [if_neg (fun z => c2 z.2), if_neg c2]
  · rw [if_neg c1, if_neg c1, if_neg (fun z => c1 z.1)]
theorem s138 (hn : n ≤ 4) (M : g.1 34 = mO K) (A : g.1 40 = aZ 42 v) (W : Wv v) (hit : ∀ k : Nat, k < n → ∀ ww, ald (hW g ww) (some 38) 0 ((((40 : Int32) * zI r) + zI s) + zI (k : Int)) = some (zI (T k))) (hTr : ∀ k, -2147483648 ≤ T k ∧ T k < 2147483648) (hk : k < n) (hx : x < 576) (hi : (i : Int) < v 4) (hww : ∀ y : Nat, y < 576 → ww (576 * (k + 1) + y) = wy v T (n - k - 1) (k + 1) y) {f0 : Int} (hf : -1000000 ≤ f0 ∧ f0 ≤ 100) : ∀ (d m fu : Nat), m + d = 8 → d < fu → b_M_seen_138 F k74 k82 k118 fu (some 34) (zI r) (zI s) (zI (n : Int)) (zI w) (zI (ff v k x (gw v (T k) (wy v T (n - k - 1) (k + 1)) x) f0 (10 * i + m))) (zI (k : Int)) (zI (x : Int)) (zI (i : Int)) (zI (m : Int)) (hW g (upI ww (576 * k + x) (sumN (gw v (T k) (wy v T (n - k - 1) (k + 1)) x) (10 * i + m)))) = k118 (some 34) (zI r) (zI s) (zI (n : Int)) (zI w) (zI (ff v k x (gw v (T k) (wy v T (n - k - 1) (k + 1)) x) f0 (10 * (i + 1)))) (zI (k : Int)) (zI (x : Int)) (zI ((i + 1 : Nat) : Int)) (hW g (upI ww (576 * k + x) (sumN (gw v (T k) (wy v T (n - k - 1) (k + 1)) x) (10 * (i + 1))))) := by
  have w4 := W.2.2.2.1
  intro d
  induction d with
  | zero =>
    intro m fu hm hf2
    obtain ⟨fu, rfl⟩ : ∃ q, fu = q + 1 := ⟨fu - 1, by omega⟩
    have hm8 : m = 8 := by omega
    subst hm8
    have z8 : gw v (T k) (wy v T (n - k - 1) (k + 1)) x (10 * i + 8) = 0 := by
      unfold gw
      rw [if_neg (by omega)]
    have z9 : gw v (T k) (wy v T (n - k - 1) (k + 1)) x (10 * i + 9) = 0 := by
      unfold gw
      rw [if_neg (by omega)]
    generalize hG : gw v (T k) (wy v T (n - k - 1) (k + 1)) x = G at z8 z9
    have sN : sumN G (10 * (i + 1)) = sumN G (10 * i + 8) := by
      rw [show 10 * (i + 1) = 10 * i + 8 + 1 + 1 by omega]
      show sumN G (10 * i + 8) + G (10 * i + 8) + G (10 * i + 9) = _
      rw [z8, z9]
      omega
    have sF : ff v k x G f0 (10 * (i + 1)) = ff v k x G f0 (10 * i + 8) := by
      have a1 := ff_st (v := v) (k := k) (x := x) (G := G) (f0 := f0) (10 * i + 8)
      have a2 := ff_st (v := v) (k := k) (x := x) (G := G) (f0 := f0) (10 * i + 9)
      rw [z8] at a1
      rw [z9] at a2
      have b1 : ∀ f c, nf v k x f 0 c = f := fun f c => by
        unfold nf
        rw [if_neg (fun z => absurd z.2.2 (by decide))]
      rw [b1] at a1 a2
      rw [show 10 * (i + 1) = 10 * i + 9 + 1 by omega, ← a2]
      exact a1.symm
    unfold b_M_seen_138
    rw [if_pos (by decide), l1, zI_add, sN, sF]
    rfl
  | succ d ih =>
    intro m fu hm hf2
    obtain ⟨fu, rfl⟩ : ∃ q, fu = q + 1 := ⟨fu - 1, by omega⟩
    have := s138a (F := F) (w := w) k74 k82 k118 hn M A W hit hTr hk hx hi hww (f := ff v k x (gw v (T k) (wy v T (n - k - 1) (k + 1)) x) f0 (10 * i + m)) (a := sumN (gw v (T k) (wy v T (n - k - 1) (k + 1)) x) (10 * i + m)) (m := m) (fu := fu) (by omega) (ff_r hf (by omega))
    rw [this, ff_st]
    exact ih (m + 1) fu (by omega) (by omega)
theorem s118 (hF : 100 ≤ F) (hn : n ≤ 4) (M : g.1 34 = mO K) (A : g.1 40 = aZ 42 v) (W : Wv v) (hit : ∀ k : Nat, k < n → ∀ ww, ald (hW g ww) (some 38) 0 ((((40 : Int32) * zI r) + zI s) + zI (k : Int)) = some (zI (T k))) (hTr : ∀ k, -2147483648 ≤ T k ∧ T k < 2147483648) (hk : k < n) (hx : x < 576) (hww : ∀ y : Nat, y < 576 → ww (576 * (k + 1) + y) = wy v T (n - k - 1) (k + 1) y) {f0 : Int} (hf : -1000000 ≤ f0 ∧ f0 ≤ 100) : ∀ (d i fu : Nat), i + d = (v 4).toNat → d < fu → b_M_seen_118 F k74 k82 fu (some 34) (zI r) (zI s) (zI (n : Int)) (zI w) (zI (ff v k x (gw v (T k) (wy v T (n - k - 1) (k + 1)) x) f0 (10 * i))) (zI (k : Int)) (zI (x : Int)) (zI (i : Int)) (hW g (upI ww (576 * k + x) (sumN (gw v (T k) (wy v T (n - k - 1) (k + 1)) x) (10 * i)))) = k82 (some 34) (zI r) (zI s) (zI (n : Int)) (zI w) (zI (ff v k x (gw v (T k) (wy v T (n - k - 1) (k + 1)) x) f0 (10 * (v 4).toNat))) (zI (k : Int)) (zI ((x + 1 : Nat) : Int)) (hW g (upI ww (576 * k + x) (wy v T (n - k) k x))) := by
  have w4 := W.2.2.2.1
  have hwy : wy v T (n - k) k x = sumN (gw v (T k) (wy v T (n - k - 1) (k + 1)) x) (10 * (v 4).toNat) := by
    rw [show n - k = (n - k - 1) + 1 by omega]
    rfl
  intro d
  induction d with
  | zero =>
    intro i fu hi hf2
    obtain ⟨fu, rfl⟩ : ∃ q, fu = q + 1 := ⟨fu - 1, by omega⟩
    have A' : ∀ ww, (hW g ww).1 40 = aZ 42 v := fun ww => (hW_n (by decide)).trans A
    have x4 : zI (v 4) ≤ zI (i : Int) ↔ v 4 ≤ (i : Int) := zI_le (by omega) (by omega) (by omega) (by omega)
    unfold b_M_seen_118 b_M_seen_309
    rw [hW_15 M, bd, aldL (A' _) 4 4 rfl (by decide) (by decide), bd]
    simp only [x4]
    rw [if_pos (by omega), l1, zI_add, hwy, ← show i = (v 4).toNat by omega]
    rfl
  | succ d ih =>
    intro i fu hi hf2
    obtain ⟨fu, rfl⟩ : ∃ q, fu = q + 1 := ⟨fu - 1, by omega⟩
    have A' : ∀ ww, (hW g ww).1 40 = aZ 42 v := fun ww => (hW_n (by decide)).trans A
    have x4 : zI (v 4) ≤ zI (i : Int) ↔ v 4 ≤ (i : Int) := zI_le (by omega) (by omega) (by omega) (by omega)
    have xk : zI (n : Int) ≤ zI (k : Int) ↔ (n : Int) ≤ (k : Int) := zI_le (by omega) (by omega) (by omega) (by omega)
    rw [← ih (i + 1) fu (by omega) (by omega)]
    conv => lhs; unfold b_M_seen_118
    rw [hW_15 M, bd, aldL (A' _) 4 4 rfl (by decide) (by decide), bd]
    simp only [x4, xk]
    rw [if_neg (by omega), if_neg (by omega)]
    exact s138 (F := F) (w := w) (i := i) k74 k82 _ hn M A W hit hTr hk hx (by omega) hww hf 8 0 F (by omega) (by omega)
/-- the first code as it stands before node x of level k -/
def fx (v T : Nat → Int) (n k x : Nat) : Int := if k = 0 ∧ ndV v < x then fcd (gw v (T 0) (wy v T (n - 1) 1) (ndV v)) (10 * (v 4).toNat) else -1000000
theorem s82 (hF : 100 ≤ F) (hn : 1 ≤ n ∧ n ≤ 4) (M : g.1 34 = mO K) (A : g.1 40 = aZ 42 v) (W : Wv v) (hit : ∀ k : Nat, k < n → ∀ ww, ald (hW g ww) (some 38) 0 ((((40 : Int32) * zI r) + zI s) + zI (k : Int)) = some (zI (T k))) (hTr : ∀ k, -2147483648 ≤ T k ∧ T k < 2147483648) (hk : k ≤ n) : ∀ (e x fu : Nat) (ww : Nat → Int), x + e = 576 → e < fu → (k < n → ∀ y : Nat, y < 576 → ww (576 * (k + 1) + y) = wy v T (n - k - 1) (k + 1) y) → (∀ y : Nat, y < x → ww (576 * k + y) = wy v T (n - k) k y) → ∃ ww', b_M_seen_82 F k74 fu (some 34) (zI r) (zI s) (zI (n : Int)) (zI w) (zI (fx v T n k x)) (zI (k : Int)) (zI (x : Int)) (hW g ww) = k74 (some 34) (zI r) (zI s) (zI (n : Int)) (zI w) (zI (fx v T n k 576)) (zI ((k : Int) - 1)) (hW g ww') ∧ ∀ y : Nat, y < 576 → ww' (576 * k + y) = wy v T (n - k) k y := by
  have w4 := W.2.2.2.1
  have hnd := ndV_r W
  intro e
  induction e with
  | zero =>
    intro x fu ww hx hf h1 h2
    obtain ⟨fu, rfl⟩ : ∃ q, fu = q + 1 := ⟨fu - 1, by omega⟩
    have hx5 : x = 576 := by omega
    subst hx5
    refine ⟨ww, ?_, h2⟩
    unfold b_M_seen_82
    rw [if_pos (by decide), lm1, zI_add]
    rfl
  | succ e ih =>
    intro x fu ww hx hf h1 h2
    obtain ⟨fu, rfl⟩ : ∃ q, fu = q + 1 := ⟨fu - 1, by omega⟩
    have x5 : (576 : Int32) ≤ zI (x : Int) ↔ 576 ≤ (x : Int) := zI_le (a := 576) (by omega) (by omega) (by omega) (by omega)
    have xk : zI (k : Int) = zI (n : Int) ↔ (k : Int) = (n : Int) := zI_eq (by omega) (by omega) (by omega) (by omega)
    have e0 : ((576 : Int32) * zI (k : Int)) + zI (x : Int) = zI ((576 * k + x : Nat) : Int) := by
      rw [l576, zI_mul, zI_add]
      rfl
    have hfx : fx v T n k x ≥ -1000000 ∧ fx v T n k x ≤ 100 := by
      unfold fx
      have := fcd_r (gw v (T 0) (wy v T (n - 1) 1) (ndV v)) (10 * (v 4).toNat)
      split <;> omega
    by_cases ck : k = n
    · have hwy : wy v T (n - k) k x = 1 := by
        rw [show n - k = 0 by omega]
        rfl
      obtain ⟨ww', q1, q2⟩ := ih (x + 1) fu (upI ww (576 * k + x) 1) (by omega) (by omega) (fun z => absurd z (by omega)) (fun y hy => by
        by_cases c : y = x
        · rw [c, upI_s, hwy]
        · rw [upI_n _ _ (by omega)]
          exact h2 y (by omega))
      refine ⟨ww', ?_, q2⟩
      have hfn : fx v T n k (x + 1) = fx v T n k x := by
        unfold fx
        rw [if_neg (by omega), if_neg (by omega)]
      rw [hfn] at q1
      rw [← q1]
      conv => lhs; unfold b_M_seen_82 b_M_seen_114
      simp only [x5, xk]
      rw [if_neg (by omega), hW_24 M, bd, if_pos (by omega), e0, l1, hW_st (by omega), bd]
      obtain ⟨fF, hfF⟩ : ∃ q, F = q + 1 := ⟨F - 1, by omega⟩
      have A' : ∀ ww, (hW g ww).1 40 = aZ 42 v := fun ww => (hW_n (by decide)).trans A
      have xnk : zI (n : Int) ≤ zI (k : Int) ↔ (n : Int) ≤ (k : Int) := zI_le (by omega) (by omega) (by omega) (by omega)
      have : ∀ fq, b_M_seen_118 F k74 (b_M_seen_82 F k74 fu) (fq + 1) (some 34) (zI r) (zI s) (zI (n : Int)) (zI w) (zI (fx v T n k x)) (zI (k : Int)) (zI (x : Int)) (0 : Int32) (hW g (upI ww (576 * k + x) 1)) = b_M_seen_82 F k74 fu (some 34) (zI r) (zI s) (zI (n : Int)) (zI w) (zI (fx v T n k x)) (zI (k : Int)) (zI ((x + 1 : Nat) : Int)) (hW g (upI ww (576 * k + x) 1)) := by
        intro fq
        conv => lhs; unfold b_M_seen_118 b_M_seen_309
        rw [hW_15 M, bd, aldL (A' _) 4 4 rfl (by decide) (by decide), bd]
        simp only [xnk]
        rw [if_pos (show (n : Int) ≤ (k : Int) by omega), l1, zI_add]
        split <;> rfl
      have h3 := this fF
      rw [← hfF] at h3
      exact h3
    · have hk' : k < n := by omega
      obtain ⟨ww', q1, q2⟩ := ih (x + 1) fu (upI ww (576 * k + x) (wy v T (n - k) k x)) (by omega) (by omega) (fun z y hy => by rw [upI_n _ _ (by omega)]; exact h1 z y hy) (fun y hy => by
        by_cases c : y = x
        · rw [c, upI_s]
        · rw [upI_n _ _ (by omega)]
          exact h2 y (by omega))
      refine ⟨ww', ?_, q2⟩
      have hfn : ff v k x (gw v (T k) (wy v T (n - k - 1) (k + 1)) x) (fx v T n k x) (10 * (v 4).toNat) = fx v T n k (x + 1) := by
        unfold ff
        by_cases c : k = 0 ∧ (x : Int) = ndV v
        · rw [if_pos c]
          unfold fx
          rw [if_pos ⟨c.1, by omega⟩, c.1, ← c.2]
          rfl
        · rw [if_neg c]
          unfold fx
          by_cases c2 : k = 0 ∧ ndV v < (x : Int)
          · rw [if_pos c2, if_pos ⟨c2.1, by omega⟩]
          · rw [if_neg c2, if_neg (by omega)]
      have hf0 : fx v T n k x = ff v k x (gw v (T k) (wy v T (n - k - 1) (k + 1)) x) (fx v T n k x) (10 * 0) := by
        unfold ff
        by_cases c : k = 0 ∧ (x : Int) = ndV v
        · rw [if_pos c]
          unfold fx
          rw [if_neg (by omega)]
          rfl
        · rw [if_neg c]
      rw [← hfn] at q1
      rw [← q1]
      conv => lhs; unfold b_M_seen_82 b_M_seen_114
      simp only [x5, xk]
      rw [if_neg (by omega), hW_24 M, bd, if_neg (by omega), e0, l0, hW_st (by omega), bd]
      have := s118 (F := F) (w := w) (ww := ww) (x := x) k74 (b_M_seen_82 F k74 fu) hF hn.2 M A W hit hTr hk' (by omega) (h1 hk') (f0 := fx v T n k x) ⟨hfx.1, hfx.2⟩ (v 4).toNat 0 F (by omega) (by omega)
      rw [← hf0] at this
      exact this
end
theorem s74 {F : Nat} {v T K it : Nat → Int} {r s w : Int} {n : Nat} {g : MH} (hF : 1000 ≤ F) (hn : 1 ≤ n ∧ n ≤ 4) (hw : 0 ≤ w ∧ w < 2) (M : g.1 34 = mO K) (A : g.1 40 = aZ 42 v) (W : Wv v) (hit : ∀ k : Nat, k < n → ∀ ww, ald (hW g ww) (some 38) 0 ((((40 : Int32) * zI r) + zI s) + zI (k : Int)) = some (zI (T k))) (hTr : ∀ k, -2147483648 ≤ T k ∧ T k < 2147483648) : ∀ (j fu : Nat) (ww : Nat → Int), j < fu → j ≤ n + 1 → (j ≤ n → ∀ y : Nat, y < 576 → ww (576 * j + y) = wy v T (n - j) j y) → ∃ ww', b_M_seen_74 F fu (some 34) (zI r) (zI s) (zI (n : Int)) (zI w) (zI (if j = 0 then fx v T n 0 576 else -1000000)) (zI ((j : Int) - 1)) (hW g ww) = b_M_seen_344 F (some 34) (zI (if w = 0 then wy v T n 0 (ndV v) else fx v T n 0 576)) (hW g ww') := by
  have hnd := ndV_r W
  intro j
  induction j with
  | zero =>
    intro fu ww hf hj h1
    obtain ⟨fu, rfl⟩ : ∃ q, fu = q + 1 := ⟨fu - 1, by omega⟩
    have xw : zI w = (0 : Int32) ↔ w = 0 := zI_eq (b := 0) (by omega) (by omega) (by omega) (by omega)
    refine ⟨ww, ?_⟩
    unfold b_M_seen_74
    rw [if_pos (by decide)]
    simp only [xw]
    by_cases c : w = 0
    · have en : f_M_node (some 40) (hW g ww) = some (zI (ndV v)) := s_M_node ((hW_n (by decide)).trans A) W
      have ea : ald (hW g ww) (some 47) 0 (zI (ndV v)) = some (zI (wy v T n 0 (ndV v))) := by
        rw [aldZ hW_47 hnd.1 (by omega) (by omega)]
        have := h1 (by omega) (ndV v).toNat (by omega)
        rw [Int.toNat_of_nonneg hnd.1, show 576 * 0 + (ndV v).toNat = (ndV v).toNat by omega] at this
        rw [this]
        rfl
      rw [if_pos c, hW_24 M, bd, hW_15 M, bd, en, bd, ea, bd, if_pos c]
    · rw [if_neg c, if_neg c, if_pos trivial]
  | succ j ih =>
    intro fu ww hf hj h1
    obtain ⟨fu, rfl⟩ : ∃ q, fu = q + 1 := ⟨fu - 1, by omega⟩
    have x0 : zI (((j + 1 : Nat) : Int) - 1) < (0 : Int32) ↔ (((j + 1 : Nat) : Int) - 1) < 0 := zI_lt (b := 0) (by omega) (by omega) (by omega) (by omega)
    have hfx0 : fx v T n j 0 = -1000000 := by
      unfold fx
      rw [if_neg (by omega)]
    obtain ⟨ww1, q1, q2⟩ := s82 (F := F) (w := w) (k := j) (b_M_seen_74 F fu) (by omega) hn M A W hit hTr (by omega) 576 0 F ww (by omega) (by omega) (fun z y hy => by
      have := h1 (by omega) y hy
      rw [show n - (j + 1) = n - j - 1 by omega] at this
      exact this) (fun y hy => absurd hy (by omega))
    obtain ⟨ww2, p1⟩ := ih fu ww1 (by omega) (by omega) (fun _ => q2)
    refine ⟨ww2, ?_⟩
    rw [← p1]
    have hfj : fx v T n j 576 = if j = 0 then fx v T n 0 576 else -1000000 := by
      by_cases c : j = 0
      · rw [if_pos c, c]
      · rw [if_neg c]
        unfold fx
        rw [if_neg (fun z => c z.1)]
    rw [← hfj, ← q1, hfx0]
    conv => lhs; unfold b_M_seen_74
    simp only [x0]
    rw [if_neg (by omega), if_neg (by omega), show ((j + 1 : Nat) : Int) - 1 = (j : Int) by omega]
    rfl
