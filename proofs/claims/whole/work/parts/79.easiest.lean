/-! ===== the reference's trials ===== -/
theorem dV_Z {v : Nat → Int} (Z : Wz v) (dg : Bool) {c : Nat} (hc : c < 24) : Wz (dV dg v c) := by
  intro k hk
  unfold dV
  cases dg with
  | false => rw [if_neg (by decide), upI_n _ _ (by omega)]; exact Z k hk
  | true => rw [if_pos rfl, upI_n _ _ (by omega)]; exact Z k hk
theorem upR_2 (Q : Nat → Nat → Int) (f b f' b' : Nat → Int) : upR (upR (upR (upR Q 7 f) 12 b) 7 f') 12 b' = upR (upR Q 7 f') 12 b' := by
  funext j
  unfold upR
  by_cases c : j = 12 <;> by_cases c2 : j = 7 <;> simp [c, c2]
theorem upR_id2 (Q : Nat → Nat → Int) : upR (upR Q 7 (Q 7)) 12 (Q 12) = Q := by
  funext j
  unfold upR
  by_cases c : j = 12
  · rw [if_pos c, c]
  · rw [if_neg c]
    by_cases c2 : j = 7
    · rw [if_pos c2, c2]
    · rw [if_neg c2]
section
variable {F : Nat} {v : Nat → Int}
/-- what the reference says in the end -/
def endR (w : Int) (p : Int × Int) : Int := if p.1 = -1000000 then -1000000 else if w = 0 then p.1 else p.2
theorem endR_eq (w : Int) (p : Int × Int) : endR w p = if w = 0 then p.1 else fw p := by
  unfold endR fw
  by_cases c : p.1 = -1000000
  · rw [if_pos c, if_pos c]
    by_cases c2 : w = 0
    · rw [if_pos c2, c]
    · rw [if_neg c2]
  · rw [if_neg c, if_neg c]
theorem m_way38 (hF : 1000000000000 ≤ F) (W : Wv v) (Z : Wz v) {w : Int} (w1 : 0 ≤ w) (w2 : w < 2) : ∀ (d k fu : Nat) (g : MH) (Q : Nat → Nat → Int), k + d = 24 → d < fu → Mr g Q → Q 6 = v → Wz (Q 7) →
    ∃ g' f b, b_M_inTheWay_38 F fu (some 34) (zI w) (zI (fC (dE false v) (fun c => mT (dV false v c) 0) k).1) (zI (fC (dE false v) (fun c => mT (dV false v c) 0) k).2) (zI k) g = some (zI (endR w (fC (dE false v) (fun c => mT (dV false v c) 0) 24)), g') ∧ Ch 34 47 g g' ∧ Mr g' (upR (upR Q 7 f) 12 b) ∧ Wz f := by
  have hm : ∀ n, n < 24 → dE false v n = true → mT (dV false v n) 0 = -1000000 ∨ (0 ≤ mT (dV false v n) 0 ∧ mT (dV false v n) 0 < 100000000) := fun n hn _ => mT_r (dV_W W false hn) (by omega) (by omega)
  have w13 := W.2.2.2.2.2.1
  intro d
  induction d with
  | zero =>
    intro k fu g Q hk hf M hQ ZQ
    obtain ⟨fu, rfl⟩ : ∃ q, fu = q + 1 := ⟨fu - 1, by omega⟩
    refine ⟨g, Q 7, Q 12, ?_, Ch_0 _ _ g, by rw [upR_id2]; exact M, ZQ⟩
    obtain ⟨p, hp⟩ : ∃ p, p = fC (dE false v) (fun c => mT (dV false v c) 0) 24 := ⟨_, rfl⟩
    have hpr := fC_r hm 24 (by omega)
    rw [show k = 24 by omega]
    rw [← hp] at hpr ⊢
    have xw : zI w = (0 : Int32) ↔ w = 0 := zI_eq (b := 0) (by omega) (by omega) (by omega) (by omega)
    have xp : zI p.1 = (-1000000 : Int32) ↔ p.1 = -1000000 := zI_eq (b := -1000000) (by omega) (by omega) (by omega) (by omega)
    unfold b_M_inTheWay_38 endR
    simp only [xw, xp]
    rw [if_pos (by decide)]
    by_cases c : p.1 = -1000000
    · rw [if_pos c, if_pos c, c]
    · rw [if_neg c, if_neg c]
      by_cases c2 : w = 0
      · rw [if_pos c2, if_pos c2]
      · rw [if_neg c2, if_neg c2]
  | succ d ih =>
    intro k fu g Q hk hf M hQ ZQ
    obtain ⟨fu, rfl⟩ : ∃ q, fu = q + 1 := ⟨fu - 1, by omega⟩
    obtain ⟨p, hp⟩ : ∃ p, p = fC (dE false v) (fun c => mT (dV false v c) 0) k := ⟨_, rfl⟩
    have hpr := fC_r hm k (by omega)
    rw [← hp] at hpr ⊢
    have hmk := mT_r (dV_W W false (c := k) (by omega)) (less := 0) (by omega) (by omega)
    obtain ⟨m, hmm⟩ : ∃ m, m = mT (dV false v k) 0 := ⟨_, rfl⟩
    have hstep : fC (dE false v) (fun c => mT (dV false v c) 0) (k + 1) = if dE false v k = true ∧ m ≠ -1000000 ∧ m < p.2 then ((k : Int), m) else p := by
      rw [hmm, hp]
      rfl
    have A6 : g.1 40 = aZ 42 v := by rw [← hQ]; exact M.2 6 (by omega) (by omega)
    have x24 : (24 : Int32) ≤ zI (k : Int) ↔ 24 ≤ (k : Int) := zI_le (a := 24) (by omega) (by omega) (by omega) (by omega)
    obtain ⟨m0, hm0⟩ : ∃ m0 : Nat, v 13 = m0 := ⟨(v 13).toNat, by omega⟩
    have hbit : ((zI (v 13) >>> (zI (k : Int) &&& 31)) &&& (1 : Int32)) = zI (btN (v 13).toNat k : Nat) := by
      rw [hm0, Int.toNat_natCast, zN m0, bitN (by omega) (by omega), ← zN]
    have br := btN_r (v 13).toNat k
    have xb : zI (btN (v 13).toNat k : Nat) = (1 : Int32) ↔ (btN (v 13).toNat k : Int) = 1 := zI_eq (b := 1) (by omega) (by omega) (by omega) (by omega)
    have hel : dE false v k = true ↔ btN (v 13).toNat k = 1 := by
      unfold dE
      simp
    have e137 : ∀ (a b : Int32) (g : MH), b_M_inTheWay_137 F (b_M_inTheWay_38 F fu) (some 34) (zI w) a b (zI k) g = b_M_inTheWay_38 F fu (some 34) (zI w) a b (zI ((k + 1 : Nat) : Int)) g := by
      intro a b g
      unfold b_M_inTheWay_137
      rw [l1, zI_add]
      rfl
    by_cases cb : btN (v 13).toNat k = 1
    · obtain ⟨g1, e1, c1, N1⟩ := r_copies (F := F) (by omega) 6 7 (c := 40) (c' := 41) rfl rfl (by omega) (by omega) (by omega) M (by rw [hQ]; exact Z) ZQ
      rw [hQ] at N1
      have h2' : 2 ^ k < 2 ^ 24 := Nat.pow_lt_pow_right (by omega) (by omega)
      have hx : zI (v 13) ^^^ ((1 : Int32) <<< (zI (k : Int) &&& 31)) = zI (((v 13).toNat ^^^ 2 ^ k : Nat) : Int) := by
        rw [hm0, Int.toNat_natCast, oneN (by omega), zN, zN, nI_xor (by omega) (by omega)]
      obtain ⟨g2, e2, c2, N2⟩ := mr_st N1 7 (c := 41) (k := 13) rfl (by omega) (by omega) (((v 13).toNat ^^^ 2 ^ k : Nat) : Int) (by omega) (show (13 : Int) < (42 : Nat) by omega)
      have e2' : ast g1 (some 41) 0 (zI 13) (zI (((v 13).toNat ^^^ 2 ^ k : Nat) : Int)) = some g2 := e2
      have N2' : Mr g2 (upR Q 7 (dV false v k)) := by
        refine N2.cg (fun j _ => ?_)
        by_cases c : j = 7
        · rw [c]
          show upI v (13 : Int).toNat _ = dV false v k
          unfold dV
          rw [if_neg (by decide)]
          rfl
        · unfold upR
          rw [if_neg c, if_neg c, if_neg c]
      obtain ⟨g3, b', e3, c3, N3, -⟩ := rm_turned hF N2' (c := 41) 7 rfl (Or.inr rfl) (dV_W W false (c := k) (by omega)) (less := 0) (by omega) (by omega)
      have e3 : f_M_turnedOf F (some 34) (some 41) (zI 0) g2 = some (zI (mT (dV false v k) 0), g3) := e3
      rw [← hmm] at e3 hmk
      obtain ⟨g4, f, b, e4, c4, N4, Zf⟩ := ih (k + 1) fu g3 _ (by omega) (by omega) N3 hQ (dV_Z Z false (by omega))
      refine ⟨g4, f, b, ?_, c1.tr (c2.tr (c3.tr c4)), by rw [upR_2] at N4; exact N4, Zf⟩
      rw [← e4, hstep]
      have A7 : g1.1 41 = aZ 42 v := N1.2 7 (by omega) (by omega)
      have xm : zI m = (-1000000 : Int32) ↔ m = -1000000 := zI_eq (b := -1000000) (by omega) (by omega) (by omega) (by omega)
      have xl : zI p.2 ≤ zI m ↔ p.2 ≤ m := zI_le (by omega) (by omega) (by omega) (by omega)
      conv => lhs; unfold b_M_inTheWay_38 b_M_inTheWay_115 b_M_inTheWay_116 b_M_inTheWay_135 b_M_inTheWay_136
      simp only [x24]
      rw [if_neg (show ¬ 24 ≤ (k : Int) by omega), mg15 M, bd, aldL A6 13 13 rfl (by decide) (by decide), bd, hbit]
      simp only [xb]
      rw [if_pos (by omega), bd, mg16 M, bd, e1, bd, mg16 N1, bd, aldL A7 13 13 rfl (by decide) (by decide), bd, hx, l13, e2', bd, mg16 N2, bd, mr_on N2, show (0 : Int32) = zI 0 from rfl, e3, bd]
      simp only [xm, xl, e137]
      by_cases z1 : m = -1000000
      · rw [if_pos z1, if_pos z1, if_neg (fun z => z.2.1 z1)]
      · rw [if_neg z1]
        by_cases z2 : p.2 ≤ m
        · rw [if_pos z2, if_neg z1, if_pos z2, if_neg (by omega)]
        · rw [if_neg z2, if_neg z1, if_neg z2, if_pos ⟨hel.mpr cb, z1, by omega⟩]
    · obtain ⟨g4, f, b, e4, c4, N4, Zf⟩ := ih (k + 1) fu g Q (by omega) (by omega) M hQ ZQ
      refine ⟨g4, f, b, ?_, c4, N4, Zf⟩
      rw [← e4, hstep, if_neg (fun z => cb (hel.mp z.1))]
      conv => lhs; unfold b_M_inTheWay_38
      simp only [x24]
      rw [if_neg (show ¬ 24 ≤ (k : Int) by omega), mg15 M, bd, aldL A6 13 13 rfl (by decide) (by decide), bd, hbit]
      simp only [xb]
      rw [if_neg (by omega), e137]
theorem m_dig38 (hF : 1000000000000 ≤ F) (W : Wv v) (Z : Wz v) {w : Int} (w1 : 0 ≤ w) (w2 : w < 2) : ∀ (d k fu : Nat) (g : MH) (Q : Nat → Nat → Int), k + d = 24 → d < fu → Mr g Q → Q 6 = v → Wz (Q 7) →
    ∃ g' f b, b_M_dig_38 F fu (some 34) (zI w) (zI (fC (dE true v) (fun c => mT (dV true v c) 0) k).1) (zI (fC (dE true v) (fun c => mT (dV true v c) 0) k).2) (zI k) g = some (zI (endR w (fC (dE true v) (fun c => mT (dV true v c) 0) 24)), g') ∧ Ch 34 47 g g' ∧ Mr g' (upR (upR Q 7 f) 12 b) ∧ Wz f := by
  have hm : ∀ n, n < 24 → dE true v n = true → mT (dV true v n) 0 = -1000000 ∨ (0 ≤ mT (dV true v n) 0 ∧ mT (dV true v n) 0 < 100000000) := fun n hn _ => mT_r (dV_W W true hn) (by omega) (by omega)
  intro d
  induction d with
  | zero =>
    intro k fu g Q hk hf M hQ ZQ
    obtain ⟨fu, rfl⟩ : ∃ q, fu = q + 1 := ⟨fu - 1, by omega⟩
    refine ⟨g, Q 7, Q 12, ?_, Ch_0 _ _ g, by rw [upR_id2]; exact M, ZQ⟩
    obtain ⟨p, hp⟩ : ∃ p, p = fC (dE true v) (fun c => mT (dV true v c) 0) 24 := ⟨_, rfl⟩
    have hpr := fC_r hm 24 (by omega)
    rw [show k = 24 by omega]
    rw [← hp] at hpr ⊢
    have xw : zI w = (0 : Int32) ↔ w = 0 := zI_eq (b := 0) (by omega) (by omega) (by omega) (by omega)
    have xp : zI p.1 = (-1000000 : Int32) ↔ p.1 = -1000000 := zI_eq (b := -1000000) (by omega) (by omega) (by omega) (by omega)
    unfold b_M_dig_38 endR
    simp only [xw, xp]
    rw [if_pos (by decide)]
    by_cases c : p.1 = -1000000
    · rw [if_pos c, if_pos c, c]
    · rw [if_neg c, if_neg c]
      by_cases c2 : w = 0
      · rw [if_pos c2, if_pos c2]
      · rw [if_neg c2, if_neg c2]
  | succ d ih =>
    intro k fu g Q hk hf M hQ ZQ
    obtain ⟨fu, rfl⟩ : ∃ q, fu = q + 1 := ⟨fu - 1, by omega⟩
    obtain ⟨p, hp⟩ : ∃ p, p = fC (dE true v) (fun c => mT (dV true v c) 0) k := ⟨_, rfl⟩
    have hpr := fC_r hm k (by omega)
    rw [← hp] at hpr ⊢
    have hmk := mT_r (dV_W W true (c := k) (by omega)) (less := 0) (by omega) (by omega)
    obtain ⟨m, hmm⟩ : ∃ m, m = mT (dV true v k) 0 := ⟨_, rfl⟩
    have hstep : fC (dE true v) (fun c => mT (dV true v c) 0) (k + 1) = if dE true v k = true ∧ m ≠ -1000000 ∧ m < p.2 then ((k : Int), m) else p := by
      rw [hmm, hp]
      rfl
    have x24 : (24 : Int32) ≤ zI (k : Int) ↔ 24 ≤ (k : Int) := zI_le (a := 24) (by omega) (by omega) (by omega) (by omega)
    obtain ⟨g1, e1, c1, N1⟩ := r_copies (F := F) (by omega) 6 7 (c := 40) (c' := 41) rfl rfl (by omega) (by omega) (by omega) M (by rw [hQ]; exact Z) ZQ
    rw [hQ] at N1
    obtain ⟨g2, e2, c2, N2⟩ := mr_st N1 7 (c := 41) (k := 18 + (k : Int)) rfl (by omega) (by omega) 9 (by omega) (show 18 + (k : Int) < (42 : Nat) by omega)
    have e2' : ast g1 (some 41) 0 (zI (18 + (k : Int))) (zI 9) = some g2 := e2
    have N2' : Mr g2 (upR Q 7 (dV true v k)) := by
      refine N2.cg (fun j _ => ?_)
      by_cases c : j = 7
      · rw [c]
        show upI v (18 + (k : Int)).toNat 9 = dV true v k
        unfold dV
        rw [if_pos rfl, show (18 + (k : Int)).toNat = 18 + k by omega]
      · unfold upR
        rw [if_neg c, if_neg c, if_neg c]
    obtain ⟨g3, b', e3, c3, N3, -⟩ := rm_turned hF N2' (c := 41) 7 rfl (Or.inr rfl) (dV_W W true (c := k) (by omega)) (less := 0) (by omega) (by omega)
    have e3 : f_M_turnedOf F (some 34) (some 41) (zI 0) g2 = some (zI (mT (dV true v k) 0), g3) := e3
    rw [← hmm] at e3 hmk
    obtain ⟨g4, f, b, e4, c4, N4, Zf⟩ := ih (k + 1) fu g3 _ (by omega) (by omega) N3 hQ (dV_Z Z true (by omega))
    refine ⟨g4, f, b, ?_, c1.tr (c2.tr (c3.tr c4)), by rw [upR_2] at N4; exact N4, Zf⟩
    rw [← e4, hstep]
    have xm : zI m = (-1000000 : Int32) ↔ m = -1000000 := zI_eq (b := -1000000) (by omega) (by omega) (by omega) (by omega)
    have xl : zI p.2 ≤ zI m ↔ p.2 ≤ m := zI_le (by omega) (by omega) (by omega) (by omega)
    have enext : ∀ (a b : Int32) (g : MH), b_M_dig_38 F fu (some 34) (zI w) a b (zI (k : Int) + 1) g = b_M_dig_38 F fu (some 34) (zI w) a b (zI ((k + 1 : Nat) : Int)) g := by
      intro a b g
      rw [l1, zI_add]
      rfl
    conv => lhs; unfold b_M_dig_38 b_M_dig_97 b_M_dig_98 b_M_dig_117 b_M_dig_118
    simp only [x24]
    rw [if_neg (show ¬ 24 ≤ (k : Int) by omega), mg15 M, bd, mg16 M, bd, e1, bd, mg16 N1, bd, l18, zI_add, l9, e2', bd, mg16 N2, bd, mr_on N2, show (0 : Int32) = zI 0 from rfl, e3, bd]
    simp only [xm, xl, enext]
    by_cases z1 : m = -1000000
    · rw [if_pos z1, if_pos z1, if_neg (fun z => z.2.1 z1)]
    · rw [if_neg z1]
      by_cases z2 : p.2 ≤ m
      · rw [if_pos z2, if_neg z1, if_pos z2, if_neg (by omega)]
      · rw [if_neg z2, if_neg z1, if_neg z2, if_pos ⟨by unfold dE; rfl, z1, by omega⟩]
end
theorem s_inTheWay {F : Nat} (hF : 1000000000000 ≤ F) (i : Int32) : Ok (f_C_inTheWay F (some 3) i) (f_M_inTheWay F (some 34) i) := by
  intro h P X
  obtain ⟨k, k1, k2, rfl⟩ := i_ex i
  obtain ⟨E, M, C, D, I⟩ := id X
  obtain ⟨⟨W, Z, K⟩, I2, I3, I4, I5, I6⟩ := id I
  have x0 : zI (P 6 0) = (0 : Int32) ↔ P 6 0 = 0 := zI_eq (b := 0) (by omega) (by omega) (by omega) (by omega)
  have hw : f_C_within (zI k) (2 : Int32) = 0 ↔ ¬ (0 ≤ k ∧ k < 2) := s_within0 (b := 2) k1 k2 (by omega) (by omega)
  have hin : f_M_in (zI k) (0 : Int32) (1 : Int32) = 0 ↔ ¬ (0 ≤ k ∧ k < 2) := by
    rw [show f_M_in (zI k) (0 : Int32) (1 : Int32) = if 0 ≤ k ∧ k ≤ 1 then 1 else 0 from s_M_in (a := 0) (b := 1) k1 k2 (by omega) (by omega) (by omega) (by omega), ite_01]
    omega
  by_cases cb : P 6 0 ≠ 0 ∧ (0 ≤ k ∧ k < 2)
  · obtain ⟨c0, ck⟩ := cb
    obtain ⟨h1, e1, c1, C1⟩ := c_easiest10 (F := F) (by omega) W Z false ck.1 ck.2 24 0 F h rfl (by omega) E C
    obtain ⟨g0, e0, b0, N0⟩ := mr_pf (M.fr c1 (by omega)) 0 rfl 0
    obtain ⟨g1, f, b', e2, b2', N1, Zf⟩ := m_way38 hF W Z ck.1 ck.2 24 0 F g0 _ rfl (by omega) N0 rfl I6
    rw [endR_eq] at e2
    have A0 : g0.1 40 = aZ 42 (P 6) := N0.2 6 (by omega) (by omega)
    refine ⟨zI (if k = 0 then (fC (dE false (P 6)) (fun c => mT (dV false (P 6) c) 0) 24).1 else fw (fC (dE false (P 6)) (fun c => mT (dV false (P 6) c) 0) 24)), h1, g1, _, ?_, ?_, J.fin (c1.es (by omega) E) C1 (D.fr c1 (by omega)) ?_ (b0.tr b2') N1 ⟨⟨rfl, rfl, rfl, rfl, rfl, rfl, rfl, rfl, rfl⟩, rfl, rfl, rfl, rfl, rfl⟩, Gr_2 c1 (b0.tr b2') (by omega) (by omega)⟩
    · unfold f_C_inTheWay f_C_easiestCell
      rw [cf8 C.1, bd]
      simp only [x0, hw]
      rw [if_neg c0, if_neg (show ¬ ¬ (0 ≤ k ∧ k < 2) from fun z => z ck), co_on C.1]
      have e1' : b_C_easiestCell_10 F F (some 3) 0 (zI k) (-1000000) (-1000000) 0 h = _ := e1
      rw [e1']
      rfl
    · unfold f_M_inTheWay
      rw [show (Value.int (0 : Int32)) = Value.int (zI 0) from rfl, e0, bd, mg15 N0, bd, aldL A0 0 0 rfl (by decide) (by decide), bd]
      simp only [x0, hin]
      rw [if_neg c0, if_neg (show ¬ ¬ (0 ≤ k ∧ k < 2) from fun z => z ck)]
      exact e2
    · exact ⟨⟨W, Z, K⟩, I2, I3, I4, I5, Zf⟩
  · obtain ⟨g, e, c, X'⟩ := X.thr
    have M' := X'.2.1
    have A0 : g.1 40 = aZ 42 (P 6) := M'.2 6 (by omega) (by omega)
    refine ⟨if P 6 0 = 0 then -1000002 else -1000001, h, g, th P, ?_, ?_, X', Gr_eq c (by omega)⟩
    · unfold f_C_inTheWay
      rw [cf8 C.1, bd]
      simp only [x0, hw]
      by_cases c0 : P 6 0 = 0
      · rw [if_pos c0, if_pos c0]
      · rw [if_neg c0, if_neg c0, if_pos (fun z => cb ⟨c0, z⟩)]
    · unfold f_M_inTheWay
      rw [e, bd, mg15 M', bd, aldL A0 0 0 rfl (by decide) (by decide), bd]
      simp only [x0, hin]
      by_cases c0 : P 6 0 = 0
      · rw [if_pos c0, if_pos c0]
      · rw [if_neg c0, if_neg c0, if_pos (fun z => cb ⟨c0, z⟩)]
theorem s_dig {F : Nat} (hF : 1000000000000 ≤ F) (i : Int32) : Ok (f_C_dig F (some 3) i) (f_M_dig F (some 34) i) := by
  intro h P X
  obtain ⟨k, k1, k2, rfl⟩ := i_ex i
  obtain ⟨E, M, C, D, I⟩ := id X
  obtain ⟨⟨W, Z, K⟩, I2, I3, I4, I5, I6⟩ := id I
  have x0 : zI (P 6 0) = (0 : Int32) ↔ P 6 0 = 0 := zI_eq (b := 0) (by omega) (by omega) (by omega) (by omega)
  have hw : f_C_within (zI k) (2 : Int32) = 0 ↔ ¬ (0 ≤ k ∧ k < 2) := s_within0 (b := 2) k1 k2 (by omega) (by omega)
  have hin : f_M_in (zI k) (0 : Int32) (1 : Int32) = 0 ↔ ¬ (0 ≤ k ∧ k < 2) := by
    rw [show f_M_in (zI k) (0 : Int32) (1 : Int32) = if 0 ≤ k ∧ k ≤ 1 then 1 else 0 from s_M_in (a := 0) (b := 1) k1 k2 (by omega) (by omega) (by omega) (by omega), ite_01]
    omega
  by_cases cb : P 6 0 ≠ 0 ∧ (0 ≤ k ∧ k < 2)
  · obtain ⟨c0, ck⟩ := cb
    obtain ⟨h1, e1, c1, C1⟩ := c_easiest10 (F := F) (by omega) W Z true ck.1 ck.2 24 0 F h rfl (by omega) E C
    obtain ⟨g0, e0, b0, N0⟩ := mr_pf (M.fr c1 (by omega)) 0 rfl 0
    obtain ⟨g1, f, b', e2, b2', N1, Zf⟩ := m_dig38 hF W Z ck.1 ck.2 24 0 F g0 _ rfl (by omega) N0 rfl I6
    rw [endR_eq] at e2
    have A0 : g0.1 40 = aZ 42 (P 6) := N0.2 6 (by omega) (by omega)
    refine ⟨zI (if k = 0 then (fC (dE true (P 6)) (fun c => mT (dV true (P 6) c) 0) 24).1 else fw (fC (dE true (P 6)) (fun c => mT (dV true (P 6) c) 0) 24)), h1, g1, _, ?_, ?_, J.fin (c1.es (by omega) E) C1 (D.fr c1 (by omega)) ?_ (b0.tr b2') N1 ⟨⟨rfl, rfl, rfl, rfl, rfl, rfl, rfl, rfl, rfl⟩, rfl, rfl, rfl, rfl, rfl⟩, Gr_2 c1 (b0.tr b2') (by omega) (by omega)⟩
    · unfold f_C_dig f_C_easiestCell
      rw [cf8 C.1, bd]
      simp only [x0, hw]
      rw [if_neg c0, if_neg (show ¬ ¬ (0 ≤ k ∧ k < 2) from fun z => z ck), co_on C.1]
      have e1' : b_C_easiestCell_10 F F (some 3) 1 (zI k) (-1000000) (-1000000) 0 h = _ := e1
      rw [e1']
      rfl
    · unfold f_M_dig
      rw [show (Value.int (0 : Int32)) = Value.int (zI 0) from rfl, e0, bd, mg15 N0, bd, aldL A0 0 0 rfl (by decide) (by decide), bd]
      simp only [x0, hin]
      rw [if_neg c0, if_neg (show ¬ ¬ (0 ≤ k ∧ k < 2) from fun z => z ck)]
      exact e2
    · exact ⟨⟨W, Z, K⟩, I2, I3, I4, I5, Zf⟩
  · obtain ⟨g, e, c, X'⟩ := X.thr
    have M' := X'.2.1
    have A0 : g.1 40 = aZ 42 (P 6) := M'.2 6 (by omega) (by omega)
    refine ⟨if P 6 0 = 0 then -1000002 else -1000001, h, g, th P, ?_, ?_, X', Gr_eq c (by omega)⟩
    · unfold f_C_dig
      rw [cf8 C.1, bd]
      simp only [x0, hw]
      by_cases c0 : P 6 0 = 0
      · rw [if_pos c0, if_pos c0]
      · rw [if_neg c0, if_neg c0, if_pos (fun z => cb ⟨c0, z⟩)]
    · unfold f_M_dig
      rw [e, bd, mg15 M', bd, aldL A0 0 0 rfl (by decide) (by decide), bd]
      simp only [x0, hin]
      by_cases c0 : P 6 0 = 0
      · rw [if_pos c0, if_pos c0]
      · rw [if_neg c0, if_neg c0, if_pos (fun z => cb ⟨c0, z⟩)]
