/-! ===== silt; what an act changes ===== -/
def sl (v : Nat → Int) : Nat → Int := fun k => if 18 ≤ k ∧ k < 42 ∧ 0 < v k then v k - 1 else v k
theorem sl_lo (v : Nat → Int) {k : Nat} (h : k < 18) : sl v k = v k := by unfold sl; rw [if_neg (by omega)]
theorem sl_W {v : Nat → Int} (W : Wv v) : Wv (sl v) := by
  obtain ⟨w1, w2, w3, w4, w5, w13, w14, w15, w16, w17, w18⟩ := W
  refine ⟨by rw [sl_lo v (by decide)]; exact w1, by rw [sl_lo v (by decide)]; exact w2, by rw [sl_lo v (by decide)]; exact w3, by rw [sl_lo v (by decide)]; exact w4, fun i hi => ?_, by rw [sl_lo v (by decide)]; exact w13, by rw [sl_lo v (by decide)]; exact w14, by rw [sl_lo v (by decide)]; exact w15, by rw [sl_lo v (by decide)]; exact w16, by rw [sl_lo v (by decide)]; exact w17, fun k hk => ?_⟩
  · rw [sl_lo v (by decide)] at hi
    rw [sl_lo v (by omega), sl_lo v (by omega)]
    exact w5 i hi
  · have := w18 k hk
    unfold sl
    split <;> omega
theorem sl_Z {v : Nat → Int} (Z : Wz v) : Wz (sl v) := by
  intro k hk
  unfold sl
  rw [if_neg (by omega)]
  exact Z k hk
theorem bO_cg {v v' : Nat → Int} {a : Nat} (h : ∀ k : Nat, k < 18 → v' k = v k) : bO v' a = bO v a := by
  unfold bO bF
  rw [h 1 (by decide), h 2 (by decide), h 3 (by decide), h 14 (by decide), h 15 (by decide), h 16 (by decide), h 17 (by decide), h 13 (by decide), h 4 (by decide)]
/-- the depths alone have changed -/
theorem Bx_dep {h : MH} {a : Nat} {v v' : Nat → Int} (W : Wv v) (B : Bx h a v) (hl : ∀ k : Nat, k < 18 → v' k = v k) (Z : Wz v') : Bx (mj_up h (a + 1) (aZ 24 (fun j => v' (18 + j)))) a v' := by
  obtain ⟨⟨B0, B1, g, B2, B3⟩, t, f, g', t1, t2, t3, t4, t5⟩ := B
  have w4 := W.2.2.2.1
  have hk : Hk h (mj_up h (a + 1) (aZ 24 (fun j => v' (18 + j)))) := by
    intro p hp hh
    obtain ⟨s, n, mi, e⟩ := hh
    rw [up_get, if_neg ?_]
    intro z
    rw [z, t2] at e
    cases e
  refine ⟨⟨by rw [up_get, if_neg (by omega), bO_cg hl]; exact B0, by rw [up_get, if_pos rfl], g, by rw [up_get, if_neg (by omega)]; exact B2, fun i hi => ?_⟩, t, _, g', by rw [up_get, if_neg (by omega)]; exact t1, by rw [up_get, if_pos rfl], fun j hj => Z _ (by omega), by rw [up_get, if_neg (by omega)]; exact t4, t5.fr hk⟩
  rw [hl 4 (by decide)] at hi
  obtain ⟨p, p1, p2, p3⟩ := B3 i hi
  exact ⟨p, p1, p2, by rw [hl _ (by omega), hl _ (by omega)]; exact (hk p p2 ⟨_, _, _, p3⟩).trans p3⟩
def lowN (v : Nat → Int) : Nat → Nat
  | 0 => 0
  | k + 1 => lowN v k + if 0 < v (18 + k) then 2 ^ k else 0
theorem lowN_lt (v : Nat → Int) : ∀ k, lowN v k < 2 ^ k
  | 0 => by unfold lowN; decide
  | k + 1 => by
    have := lowN_lt v k
    unfold lowN
    rw [Nat.pow_succ]
    split <;> omega
theorem btN_hi (x : Nat) {c k : Nat} (h : c < k) : btN (x + 2 ^ k) c = btN x c := by
  unfold btN
  have e : 2 ^ k = 2 ^ c * (2 * 2 ^ (k - c - 1)) := by
    rw [← Nat.pow_succ', ← Nat.pow_add]
    congr 1
    omega
  rw [e, Nat.add_mul_div_left _ _ (Nat.two_pow_pos c), Nat.add_mul_mod_self_left]
theorem btN_low (v : Nat → Int) (c : Nat) : ∀ k, btN (lowN v k) c = if c < k ∧ 0 < v (18 + c) then 1 else 0
  | 0 => by
    unfold lowN btN
    rw [if_neg (by omega), Nat.zero_div]
  | k + 1 => by
    have ih := btN_low v c k
    have hl := lowN_lt v k
    unfold lowN
    by_cases e : c = k
    · rw [e] at ih ⊢
      by_cases z : 0 < v (18 + k)
      · rw [if_pos z, if_pos ⟨by omega, z⟩]
        unfold btN
        have h1 := Nat.add_div_right (lowN v k) (Nat.two_pow_pos k)
        rw [h1, Nat.div_eq_of_lt hl]
      · rw [if_neg z, if_neg (fun y => z y.2)]
        unfold btN
        rw [Nat.add_zero, Nat.div_eq_of_lt hl]
    · by_cases z : 0 < v (18 + k)
      · rw [if_pos z]
        by_cases ck : c < k
        · rw [btN_hi _ ck, ih]
          by_cases z2 : 0 < v (18 + c)
          · rw [if_pos ⟨ck, z2⟩, if_pos ⟨by omega, z2⟩]
          · rw [if_neg (fun y => z2 y.2), if_neg (fun y => z2 y.2)]
        · rw [if_neg (by omega)]
          unfold btN
          rw [Nat.div_eq_of_lt]
          have := Nat.pow_le_pow_right (n := 2) (by omega) (show k + 1 ≤ c by omega)
          rw [Nat.pow_succ] at this
          omega
      · rw [if_neg z, Nat.add_zero, ih]
        by_cases z2 : 0 < v (18 + c)
        · by_cases ck : c < k
          · rw [if_pos ⟨ck, z2⟩, if_pos ⟨by omega, z2⟩]
          · rw [if_neg (fun y => ck y.1), if_neg (fun y => by omega)]
        · rw [if_neg (fun y => z2 y.2), if_neg (fun y => z2 y.2)]
theorem lb_N {m c : Nat} (hm : m < 2 ^ 31) (hc : c < 24) : lb (m : Int) c = btN m c := by
  unfold lb
  rw [zN, bitN hm hc, ← zN]
  have := btN_r m c
  rw [zI_toInt (by omega) (by omega)]
theorem lb_0 {c : Nat} (hc : c < 24) : lb 0 c = 0 := by
  have := lb_N (m := 0) (by decide) hc
  rw [show ((0 : Nat) : Int) = 0 from rfl] at this
  rw [this]
  unfold btN
  rw [Nat.zero_div]
  rfl
theorem or_low {a k : Nat} (ha : a < 2 ^ k) (hk : k < 24) : nI a ||| nI (2 ^ k) = nI (a + 2 ^ k) := by
  have h2 : 2 ^ k ≤ 2 ^ 23 := Nat.pow_le_pow_right (by omega) (by omega)
  have e := Nat.two_pow_add_eq_or_of_lt ha 1
  rw [Nat.mul_one] at e
  rw [nI_or (by omega) (by omega), Nat.or_comm, ← e, Nat.add_comm]
theorem s_siltUp4 {F : Nat} {a : Nat} (ha : 3 ≤ a) {v : Nat → Int} (W : Wv v) : ∀ (d k fu : Nat) (h : MH) (f : Nat → Int), k + d = 24 → d < fu → h.1 a = bO v a → h.1 (a + 1) = aZ 24 f → (∀ j, f j = if j < k then sl v (18 + j) else v (18 + j)) →
    b_B_siltUp_4 F fu (some a) (nI (lowN v k)) (zI (k : Int)) h = some (nI (lowN v 24), mj_up h (a + 1) (aZ 24 (fun j => if j < 24 then sl v (18 + j) else v (18 + j)))) := by
  intro d
  induction d with
  | zero =>
    intro k fu h f hk hf B0 B1 hj
    obtain ⟨fu, rfl⟩ : ∃ q, fu = q + 1 := ⟨fu - 1, by omega⟩
    unfold b_B_siltUp_4
    simp (disch := omega) only [l24, zI_le]
    rw [if_pos (by omega), show k = 24 by omega]
    have e : (fun j => if j < 24 then sl v (18 + j) else v (18 + j)) = f := by
      funext j
      rw [hj j, show k = 24 by omega]
    rw [e, ← B1, up_id]
  | succ d ih =>
    intro k fu h f hk hf B0 B1 hj
    obtain ⟨fu, rfl⟩ : ∃ q, fu = q + 1 := ⟨fu - 1, by omega⟩
    have w := W.2.2.2.2.2.2.2.2.2.2 k (by omega)
    have hat := s_at_in B1 (i := (k : Int)) (by omega) (by omega) (by omega)
    have hfk : f k = v (18 + k) := by rw [hj k, if_neg (by omega)]
    rw [Int.toNat_natCast, hfk] at hat
    have hu : b_B_siltUp_4 F (fu + 1) (some a) (nI (lowN v k)) (zI (k : Int)) h = if v (18 + k) ≤ 0 then b_B_siltUp_4 F fu (some a) (nI (lowN v k)) (zI ((k + 1 : Nat) : Int)) h else Option.bind (f_C_put (some (a + 1)) (zI (k : Int)) (zI (v (18 + k) - 1)) h) fun h13 => b_B_siltUp_4 F fu (some a) (nI (lowN v k + 2 ^ k)) (zI ((k + 1 : Nat) : Int)) h13 := by
      have x24 : (24 : Int32) ≤ zI (k : Int) ↔ 24 ≤ (k : Int) := zI_le (a := 24) (by omega) (by omega) (by omega) (by omega)
      have x0 : zI (v (18 + k)) ≤ (0 : Int32) ↔ v (18 + k) ≤ 0 := zI_le (b := 0) (by omega) (by omega) (by omega) (by omega)
      conv => lhs; unfold b_B_siltUp_4 b_B_siltUp_45
      simp only [(b_g B0).2.2.2.2.2.2.2.2.2.1, bd, hat, x24, x0]
      rw [if_neg (show ¬ 24 ≤ (k : Int) by omega), oneN (by omega), or_low (lowN_lt v k) (by omega), show (1 : Int32) = zI 1 from rfl, zI_add, zI_sub]
      rfl
    rw [hu]
    by_cases c : v (18 + k) ≤ 0
    · rw [if_pos c]
      have := ih (k + 1) fu h f (by omega) (by omega) B0 B1 (fun j => by
        rw [hj j]
        by_cases e : j = k
        · rw [if_neg (by omega), if_pos (by omega), e]
          unfold sl
          rw [if_neg (by omega)]
        · by_cases e2 : j < k
          · rw [if_pos e2, if_pos (by omega)]
          · rw [if_neg e2, if_neg (by omega)])
      have hl : lowN v (k + 1) = lowN v k := by
        show lowN v k + (if 0 < v (18 + k) then 2 ^ k else 0) = _
        rw [if_neg (by omega)]
        rfl
      rw [hl] at this
      exact this
    · rw [if_neg c]
      have ep := s_put B1 (by omega) (i := (k : Int)) (x := v (18 + k) - 1) (by omega) (by omega) (by omega)
      rw [ep, bd, Int.toNat_natCast]
      have := ih (k + 1) fu (mj_up h (a + 1) (aZ 24 (upI f k (v (18 + k) - 1)))) (upI f k (v (18 + k) - 1)) (by omega) (by omega) (by rw [up_get, if_neg (by omega)]; exact B0) (by rw [up_get, if_pos rfl]) (fun j => by
        by_cases e : j = k
        · rw [e, upI_s, if_pos (by omega)]
          unfold sl
          rw [if_pos (by omega)]
        · rw [upI_n _ _ e, hj j]
          by_cases e2 : j < k
          · rw [if_pos e2, if_pos (by omega)]
          · rw [if_neg e2, if_neg (by omega)])
      have hl : lowN v (k + 1) = lowN v k + 2 ^ k := by
        show lowN v k + (if 0 < v (18 + k) then 2 ^ k else 0) = _
        rw [if_pos (by omega)]
      rw [hl, up_up] at this
      exact this
theorem s_siltUp {F : Nat} (hF : 100 ≤ F) {a : Nat} (ha : 3 ≤ a) {v : Nat → Int} (W : Wv v) (Z : Wz v) {h : MH} (B : Bx h a v) : ∃ h', f_B_siltUp F (some a) h = some (zI (lowN v 24 : Nat), h') ∧ Ch (a + 1) (a + 1) h h' ∧ Bx h' a (sl v) := by
  have e := s_siltUp4 (F := F) ha W 24 0 F h (fun j => v (18 + j)) rfl (by omega) B.1.1 B.1.2.1 (fun j => by rw [if_neg (by omega)])
  have ef : (fun j => if j < 24 then sl v (18 + j) else v (18 + j)) = (fun j => sl v (18 + j)) := by
    funext j
    by_cases c : j < 24
    · rw [if_pos c]
    · rw [if_neg c]
      unfold sl
      rw [if_neg (by omega)]
  rw [ef] at e
  refine ⟨_, ?_, Ch_up h _ (Nat.le_refl _) (Nat.le_refl _), Bx_dep W B (fun k hk => sl_lo v hk) (sl_Z Z)⟩
  unfold f_B_siltUp
  rw [zN]
  exact e
theorem m_silts {F : Nat} (hF : 100 ≤ F) {g : MH} {Q : Nat → Nat → Int} (M : Mr g Q) {c : Nat} (a : Nat) (hc : c = 34 + a) (ha : a = 6 ∨ a = 7) (W : Wv (Q a)) : ∃ g', f_M_silts F (some c) g = some g' ∧ Ch 34 47 g g' ∧ Mr g' (upR Q a (sl (Q a))) := by
  have key : ∀ (d k fu : Nat) (g : MH) (R : Nat → Nat → Int), k + d = 24 → d < fu → Mr g R → (∀ j, R a j = if j < 18 + k then sl (Q a) j else Q a j) → ∃ g', b_M_silts_2 F fu (some c) (zI (k : Int)) g = some g' ∧ Ch 34 47 g g' ∧ Mr g' (upR R a (sl (Q a))) := by
    intro d
    induction d with
    | zero =>
      intro k fu g R hk hf M hj
      obtain ⟨fu, rfl⟩ : ∃ q, fu = q + 1 := ⟨fu - 1, by omega⟩
      refine ⟨g, ?_, Ch_0 _ _ g, M.cg (fun j _ => ?_)⟩
      · unfold b_M_silts_2
        simp (disch := omega) only [l24, zI_le]
        rw [if_pos (by omega)]
      · unfold upR
        by_cases e : j = a
        · rw [if_pos e, e]
          funext i
          rw [hj i]
          by_cases c2 : i < 18 + k
          · rw [if_pos c2]
          · rw [if_neg c2]
            unfold sl
            rw [if_neg (by omega)]
        · rw [if_neg e]
    | succ d ih =>
      intro k fu g R hk hf M hj
      obtain ⟨fu, rfl⟩ : ∃ q, fu = q + 1 := ⟨fu - 1, by omega⟩
      have ty : tyM a = 0 ∧ szM a = 42 := by rcases ha with e | e <;> rw [e] <;> exact ⟨rfl, rfl⟩
      have hv : R a (18 + k) = Q a (18 + k) := by rw [hj, if_neg (by omega)]
      have w := W.2.2.2.2.2.2.2.2.2.2 k (by omega)
      have hl := mr_ld M a hc (by omega) (by omega) (k := 18 + (k : Int)) (by omega) (by rw [ty.2]; omega)
      rw [ty.1, show (18 + (k : Int)).toNat = 18 + k by omega, hv] at hl
      have x24 : (24 : Int32) ≤ zI (k : Int) ↔ 24 ≤ (k : Int) := zI_le (a := 24) (by omega) (by omega) (by omega) (by omega)
      have x0 : zI (Q a (18 + k)) ≤ (0 : Int32) ↔ Q a (18 + k) ≤ 0 := zI_le (b := 0) (by omega) (by omega) (by omega) (by omega)
      obtain ⟨g1, e1, c1, M1⟩ := mr_st M a hc (by omega) (by omega) (k := 18 + (k : Int)) (sl (Q a) (18 + k)) (by omega) (by rw [ty.2]; omega)
      rw [ty.1] at e1
      rw [show (18 + (k : Int)).toNat = 18 + k by omega] at M1
      obtain ⟨g2, e2, c2, M2⟩ := ih (k + 1) fu g1 _ (by omega) (by omega) M1 (fun j => by
        unfold upR
        rw [if_pos rfl]
        by_cases e : j = 18 + k
        · rw [e, upI_s, if_pos (by omega)]
        · rw [upI_n _ _ e, hj j]
          by_cases c2 : j < 18 + k
          · rw [if_pos c2, if_pos (by omega)]
          · rw [if_neg c2, if_neg (by omega)])
      refine ⟨g2, ?_, c1.tr c2, M2.cg (fun j _ => ?_)⟩
      · have hsl : sl (Q a) (18 + k) = Q a (18 + k) - (if Q a (18 + k) ≤ 0 then 0 else 1) := by
          unfold sl
          by_cases z : 0 < Q a (18 + k)
          · rw [if_pos ⟨by omega, by omega, z⟩, if_neg (by omega)]
          · rw [if_neg (fun y => z y.2.2), if_pos (by omega)]; omega
        unfold b_M_silts_2 b_M_silts_29
        rw [l18, zI_add, hl]
        simp only [bd, x24, x0]
        rw [if_neg (show ¬ 24 ≤ (k : Int) by omega)]
        by_cases z : Q a (18 + k) ≤ 0
        · rw [if_pos z, show (0 : Int32) = zI 0 from rfl, zI_sub]
          rw [if_pos z] at hsl
          rw [← hsl, e1, bd, l1, zI_add]
          exact e2
        · rw [if_neg z, show (1 : Int32) = zI 1 from rfl, zI_sub]
          rw [if_neg z] at hsl
          rw [← hsl, e1, bd, zI_add]
          exact e2
      · unfold upR
        by_cases e : j = a
        · rw [if_pos e, if_pos e]
        · rw [if_neg e, if_neg e, if_neg e]
  obtain ⟨g', e, c', M'⟩ := key 24 0 F g Q rfl (by omega) M (fun j => by
    by_cases z : j < 18 + 0
    · rw [if_pos z, sl_lo _ (by omega)]
    · rw [if_neg z])
  refine ⟨g', ?_, c', M'⟩
  unfold f_M_silts
  rw [l0]
  exact e
