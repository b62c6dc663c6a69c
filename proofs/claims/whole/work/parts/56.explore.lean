/-! ===== the search explores ===== -/
def Cp (v : Nat → Int) (less st : Int) (mi fi pa pr : Nat → Int) (s : Int) (p : Nat) : Prop := pa p ≠ -1000000 → ∀ k', eV v (pr p).toNat (mo p) less s = some k' → mi (pj (leV v) k').toNat ≤ mi s.toNat + pa p ∧ (mi (pj (leV v) k').toNat = mi s.toNat + pa p → fi (pj (leV v) k').toNat ≤ if s = st then 10 * pr p + mo p else fi s.toNat)
theorem Cp_Cs {v : Nat → Int} (W : Wv v) {less st : Int} {mi fi pa pr : Nat → Int} (P : Pc v pa pr) {s : Int} (h : ∀ p : Nat, p < 10 → Cp v less st mi fi pa pr s p) : Cs v less st mi fi s := by
  have w4 := W.2.2.2.1
  intro i m k' hi m1 m2 he
  have hk : mk (v (5 + i)) m = true := by
    cases hk : mk (v (5 + i)) m with
    | true => rfl
    | false => rw [eV_mk (by omega) hk] at he; cases he
  obtain ⟨p, p1, p2, p3, p4, p5, p6⟩ := P.2 i m.toNat hi (by omega) (by rw [Int.toNat_of_nonneg m1]; exact hk)
  rw [Int.toNat_of_nonneg m1] at p2 p5 p6
  rcases P.1 p p1 with e | ⟨q1, q2, q3, q4, q5⟩
  · exact absurd e p4
  · have he2 : eV v (pr p).toNat (mo p) less s = some k' := by
      rw [p2] at q3 ⊢
      rw [← he]
      exact eV_sort _ _ (by omega) (by omega) m q3 hk (q4.trans p3.symm) s
    obtain ⟨g1, g2⟩ := h p p1 p4 k' he2
    refine ⟨by omega, fun z => ?_⟩
    have e1 : pa p = vMin v i m := by omega
    have := g2 (by omega)
    have := p6 e1
    by_cases c : s = st
    · rw [if_pos c] at *
      omega
    · rw [if_neg c] at *
      assumption
theorem Cp_mono {v : Nat → Int} {less st : Int} {mi fi mi' fi' pa pr : Nat → Int} (W : Wv v) {s : Nat} (hs : s < 576) {p : Nat} (h : Cp v less st mi fi pa pr s p) (h1 : ∀ u : Nat, u < 576 → mi' u ≤ mi u ∧ (mi' u = mi u → fi' u ≤ fi u)) (h2 : mi' s = mi s ∧ fi' s = fi s) : Cp v less st mi' fi' pa pr s p := by
  intro hp k' he
  obtain ⟨g1, g2⟩ := h hp k' he
  have hr := eV_r W (by omega) (by omega) he
  have hq := pj_r (le := leV v) hr.1 hr.2
  obtain ⟨b1, b2⟩ := h1 (pj (leV v) k').toNat (by omega)
  rw [Int.toNat_natCast] at g1 g2 ⊢
  rw [h2.1, h2.2]
  refine ⟨by omega, fun z => ?_⟩
  have e : mi' (pj (leV v) k').toNat = mi (pj (leV v) k').toNat := by omega
  exact Int.le_trans (b2 e) (g2 (by omega))
section
variable {v : Nat → Int} {less mu : Int} {D : Nat → Int}
/-- s is being left -/
def Lv (v : Nat → Int) (less mu : Int) (D : Nat → Int) (s : Nat) (p : Nat) (h : MH) (R : Nat → Nat → Int) : Prop :=
  Es h ∧ Sr h R ∧ (∃ (Q ts : Nat → Int) (c : Int), Iv v less (pj (leV v) (ndV v)) R Q D ts c mu s) ∧ Fx v less R ∧ R 2 s = mu ∧ ∀ p' : Nat, p' < p → Cp v less (pj (leV v) (ndV v)) (R 2) (R 3) (R 7) (R 8) s p'
theorem s_leave84 {F : Nat} (W : Wv v) (hl : 0 ≤ less) {s : Nat} (hs : s < 576) (sp : pj (leV v) s = s) (hmu : 0 ≤ mu ∧ mu ≤ 20000) (hDs : D s = 1) (hB : mu + 20 ≤ 20 * sumN D 576) (k18 : (Option Nat) → Int32 → Int32 → Int32 → Int32 → MH → (Option MH)) {p : Nat} (hp : p < 10) {h : MH} {R : Nat → Nat → Int} (L : Lv v less mu D s p h R) (hpa : R 7 p ≠ -1000000) {nd : Int} (hnd : nd = vLift (v (5 + (R 8 p).toNat)) (vD v less)) :
    ∃ h' R', b_S_leave_84 F k18 (some 17) (zI s) (zI ((s : Int) / 24)) (zI ((s : Int) / 3 % 8)) (zI p) (zI (mo p)) (zI nd) h = k18 (some 17) (zI s) (zI ((s : Int) / 24)) (zI ((s : Int) / 3 % 8)) (zI ((p + 1 : Nat) : Int)) h' ∧ Sm h h' ∧ Lv v less mu D s (p + 1) h' R' := by
  obtain ⟨E, S, ⟨Q, ts, c, I⟩, X, hR2, hC⟩ := L
  have w4 := W.2.2.2.1
  have hd := vD_r W hl
  have e189 : ∀ g, b_S_leave_189 F k18 (some 17) (zI s) (zI ((s : Int) / 24)) (zI ((s : Int) / 3 % 8)) (zI p) g = k18 (some 17) (zI s) (zI ((s : Int) / 24)) (zI ((s : Int) / 3 % 8)) (zI ((p + 1 : Nat) : Int)) g := by
    intro g
    unfold b_S_leave_189
    rw [l1, zI_add]
    rfl
  rcases X.2.2.2.1.1 p hp with e | ⟨q1, q2, q3, q4, q5⟩
  · exact absurd e hpa
  · have hi : ((R 8 p).toNat : Int) < v 4 := by omega
    have hm : 0 ≤ mo p ∧ mo p < 8 := by unfold mo; split <;> omega
    have hmi := vMin_r W hi (mo p)
    have w5 := W.2.2.2.2.1 _ hi
    have hmb := midB_r (c := (s : Int) / 24) (t := (s : Int) / 3 % 8) (m := mo p) (by omega) (by omega)
    have ht := tT_r (t := (s : Int) / 3 % 8) (m := mo p) (by omega) (by omega)
    have hsh := shal_r W (c := midB ((s : Int) / 24) ((s : Int) / 3 % 8) (mo p)) (t := tT ((s : Int) / 3 % 8) (mo p)) hmb.2
    have hnr : 0 ≤ nd ∧ nd ≤ 8 := by
      rw [hnd]
      unfold vLift
      split <;> omega
    unfold b_S_leave_84
    rw [s_middleBehind E (by omega) (by omega) (by omega) (by omega) hm.1 hm.2, s_turnBehind (by omega) (by omega) hm.1 hm.2, bd, sr_on S, s_clearAt W S X.2.2.2.2 hmb.1 hmb.2 ht.1 ht.2, bd]
    simp (disch := omega) only [zI_lt]
    have hev := eV_some W hl (s := (s : Int)) (by omega) (by omega) hi hm.1 hm.2 q3
    rw [← hnd] at hev
    by_cases c1 : shal v (midB ((s : Int) / 24) ((s : Int) / 3 % 8) (mo p)) (tT ((s : Int) / 3 % 8) (mo p)) < nd
    · rw [if_pos c1, e189]
      refine ⟨h, R, rfl, Sm_0 h, E, S, ⟨Q, ts, c, I⟩, X, hR2, fun p' hp' => ?_⟩
      by_cases e : p' = p
      · rw [e]
        intro _ k' he
        have := hev.mpr ⟨k', he⟩
        omega
      · exact hC p' (by omega)
    · rw [if_neg c1]
      obtain ⟨k', he⟩ := hev.mp (by omega)
      have hr := eV_r W (by omega) (by omega) he
      have hpr := pj_r (le := leV v) hr.1 hr.2
      have hbh := s_behind E W S X hl (s := (s : Int)) (by omega) (by omega) sp hi hm.1 hm.2 he
      have at7 : f_C_at (some 24) (zI p) h = some (zI (R 7 p)) := by
        have := sr_at S 7 (c := 24) (k := (p : Int)) rfl (by omega) (by omega) (by omega) (show (p : Int) < (10 : Nat) by omega)
        rwa [Int.toNat_natCast] at this
      have at8 : f_C_at (some 25) (zI p) h = some (zI (R 8 p)) := by
        have := sr_at S 8 (c := 25) (k := (p : Int)) rfl (by omega) (by omega) (by omega) (show (p : Int) < (10 : Nat) by omega)
        rwa [Int.toNat_natCast] at this
      have at2 : f_C_at (some 19) (zI s) h = some (zI (R 2 s)) := by
        have := sr_at S 2 (c := 19) (k := (s : Int)) rfl (by omega) (by omega) (by omega) (show (s : Int) < (576 : Nat) by omega)
        rwa [Int.toNat_natCast] at this
      have at3 : f_C_at (some 20) (zI s) h = some (zI (R 3 s)) := by
        have := sr_at S 3 (c := 20) (k := (s : Int)) rfl (by omega) (by omega) (by omega) (show (s : Int) < (576 : Nat) by omega)
        rwa [Int.toNat_natCast] at this
      have hcl : (s : Int) = pj (leV v) (ndV v) ∨ 0 < R 2 s ∧ ∃ n, Fw v less (pj (leV v) (ndV v)) n s (R 2 s) (R 3 s) := by
        rcases I.2.2.1 s hs with a | ⟨a1, a2, a3, a4, a5⟩
        · omega
        · exact a4
      have go : ∀ code : Int, code = (if (s : Int) = pj (leV v) (ndV v) then 10 * R 8 p + mo p else R 3 s) → ∃ h' R', b_S_leave_152 F k18 (some 17) (zI s) (zI ((s : Int) / 24)) (zI ((s : Int) / 3 % 8)) (zI p) (zI (midB ((s : Int) / 24) ((s : Int) / 3 % 8) (mo p))) (zI (tT ((s : Int) / 3 % 8) (mo p))) (zI code) h = k18 (some 17) (zI s) (zI ((s : Int) / 24)) (zI ((s : Int) / 3 % 8)) (zI ((p + 1 : Nat) : Int)) h' ∧ Sm h h' ∧ Lv v less mu D s (p + 1) h' R' := by
        intro code hcode
        unfold b_S_leave_152
        rw [l3, zI_rem (a := (s : Int)) (by omega) (by omega) (by omega) (by omega), sr_on S, hbh, bd, sg1 S, bd, at2, bd, sg6 S, bd, at7, bd, zI_add]
        have hFw : ∃ n, Fw v less (pj (leV v) (ndV v)) n ((pj (leV v) k').toNat : Nat) (R 2 s + R 7 p) code := by
          rw [Int.toNat_of_nonneg hpr.1]
          by_cases cs : (s : Int) = pj (leV v) (ndV v)
          · rw [if_pos cs] at hcode
            refine ⟨0, (R 8 p).toNat, mo p, k', hi, hm.1, hm.2, by rw [← cs]; exact he, rfl, ?_, ?_⟩
            · have h0 := I.2.2.2.2.1.1
              rw [← cs, Int.toNat_natCast] at h0
              rw [h0, q5, Int.zero_add]
            · rw [hcode, Int.toNat_of_nonneg q1]
          · rw [if_neg cs] at hcode
            rcases hcl with a | ⟨-, n, a⟩
            · exact absurd a cs
            · exact ⟨n + 1, (R 8 p).toNat, mo p, s, R 2 s, k', hi, hm.1, hm.2, by rw [hcode]; exact a, he, rfl, by rw [q5]⟩
        obtain ⟨h1, R1, e1, m1, S1, ⟨Q1, ts1, c2, I1⟩, ⟨z1, z7, z8, z00, z01, z02⟩, mono, same, t1, t2⟩ := s_offer W S I (t := (pj (leV v) k').toNat) (by omega) (by rw [Int.toNat_of_nonneg hpr.1, pj_pj]) (total := R 2 s + R 7 p) (code := code) (by omega) (by omega) (by omega) hFw hmu.1
        rw [Int.toNat_of_nonneg hpr.1] at e1
        rw [sr_on S, e1, bd, e189]
        have hsm := same s hs hDs
        refine ⟨h1, R1, rfl, m1, m1.es E, S1, ⟨Q1, ts1, c2, I1⟩, ⟨by rw [z00]; exact X.1, by rw [z01]; exact X.2.1, by rw [z02]; exact X.2.2.1, by rw [z7, z8]; exact X.2.2.2.1, by rw [z1]; exact X.2.2.2.2⟩, by rw [hsm.1]; exact hR2, fun p' hp' => ?_⟩
        rw [z7, z8]
        by_cases e : p' = p
        · rw [e]
          intro _ k2 he2
          rw [he] at he2
          cases he2
          rw [Int.toNat_natCast, hsm.1, hsm.2]
          refine ⟨t1, fun z => ?_⟩
          rw [← hcode]
          exact t2 z
        · exact Cp_mono W hs (hC p' (by omega)) mono hsm
      rw [sg10 S, bd, X.2.2.1]
      have hsr := pj_r (le := leV v) (ndV_r W).1 (ndV_r W).2
      simp (disch := omega) only [zI_eq]
      by_cases cs : (s : Int) = pj (leV v) (ndV v)
      · rw [if_pos cs, sg7 S, bd, at8, bd, l10, zI_mul, zI_add]
        exact go _ (by rw [if_pos cs])
      · rw [if_neg cs, sg2 S, bd, at3, bd]
        exact go _ (by rw [if_neg cs])
theorem s_leave18 {F : Nat} (W : Wv v) (hl : 0 ≤ less) {s : Nat} (hs : s < 576) (sp : pj (leV v) s = s) (hmu : 0 ≤ mu ∧ mu ≤ 20000) (hDs : D s = 1) (hB : mu + 20 ≤ 20 * sumN D 576) : ∀ (d p fu : Nat) (h : MH) (R : Nat → Nat → Int), p + d = 10 → d < fu → Lv v less mu D s p h R →
    ∃ h' R', b_S_leave_18 F fu (some 17) (zI s) (zI ((s : Int) / 24)) (zI ((s : Int) / 3 % 8)) (zI p) h = some h' ∧ Sm h h' ∧ Lv v less mu D s 10 h' R' := by
  have hd := vD_r W hl
  intro d
  induction d with
  | zero =>
    intro p fu h R hp hf L
    obtain ⟨fu, rfl⟩ : ∃ q, fu = q + 1 := ⟨fu - 1, by omega⟩
    refine ⟨h, R, ?_, Sm_0 h, by rw [show (10 : Nat) = p by omega]; exact L⟩
    unfold b_S_leave_18
    simp (disch := omega) only [l10, zI_le]
    rw [if_pos (by omega)]
  | succ d ih =>
    intro p fu h R hp hf L
    obtain ⟨fu, rfl⟩ : ∃ q, fu = q + 1 := ⟨fu - 1, by omega⟩
    obtain ⟨E, S, ⟨Q, ts, c, I⟩, X, hR2, hC⟩ := id L
    have at7 : f_C_at (some 24) (zI p) h = some (zI (R 7 p)) := by
      have := sr_at S 7 (c := 24) (k := (p : Int)) rfl (by omega) (by omega) (by omega) (show (p : Int) < (10 : Nat) by omega)
      rwa [Int.toNat_natCast] at this
    have h7 : -1000000 ≤ R 7 p ∧ R 7 p ≤ 1000 := by
      rcases X.2.2.2.1.1 p (by omega) with e | ⟨q1, q2, q3, q4, q5⟩
      · omega
      · have := vMin_r W (i := (R 8 p).toNat) (by omega) (mo p)
        omega
    conv => enter [1, h', 1, R', 1, 1]; unfold b_S_leave_18
    have x10 : (10 : Int32) ≤ zI (p : Int) ↔ 10 ≤ (p : Int) := zI_le (a := 10) (by omega) (by omega) (by omega) (by omega)
    have x8 : (8 : Int32) ≤ zI (p : Int) ↔ 8 ≤ (p : Int) := zI_le (a := 8) (by omega) (by omega) (by omega) (by omega)
    have x7 : zI (R 7 p) = (-1000000 : Int32) ↔ R 7 p = -1000000 := zI_eq (b := -1000000) (by omega) (by omega) (by omega) (by omega)
    simp only [sg6 S, at7, bd, x10, x8, x7]
    rw [if_neg (show ¬ 10 ≤ (p : Int) by omega)]
    by_cases c1 : R 7 p = -1000000
    · rw [if_pos c1]
      obtain ⟨h2, R2, e2, m2, L2⟩ := ih (p + 1) fu h R (by omega) (by omega) ⟨E, S, ⟨Q, ts, c, I⟩, X, hR2, fun p' hp' => by
        by_cases e : p' = p
        · rw [e]; exact fun z => absurd c1 z
        · exact hC p' (by omega)⟩
      refine ⟨h2, R2, ?_, m2, L2⟩
      unfold b_S_leave_189
      rw [l1, zI_add]
      exact e2
    · rw [if_neg c1]
      rcases X.2.2.2.1.1 p (by omega) with e | ⟨q1, q2, q3, q4, q5⟩
      · exact absurd e c1
      · have hi : ((R 8 p).toNat : Int) < v 4 := by omega
        obtain ⟨nd, hnd⟩ : ∃ nd, nd = vLift (v (5 + (R 8 p).toNat)) (vD v less) := ⟨_, rfl⟩
        obtain ⟨h1, R1, e1, m1, L1⟩ := s_leave84 (F := F) W hl hs sp hmu hDs hB (b_S_leave_18 F fu) (p := p) (by omega) L c1 hnd
        obtain ⟨h2, R2, e2, m2, L2⟩ := ih (p + 1) fu h1 R1 (by omega) (by omega) L1
        refine ⟨h2, R2, ?_, m1.tr m2, L2⟩
        rw [← e2, ← e1]
        unfold b_S_leave_58
        simp only [x8, sg8 S, bd, X.1]
        have hv := hnd
        unfold vLift at hv
        by_cases c8 : 8 ≤ (p : Int)
        · rw [if_pos c8, if_pos c8, l2, zI_sub, l0, l1, zI_sub, zI_max (by omega) (by omega) (by omega) (by omega)]
          have hm : mo p = (p : Int) - 2 := by unfold mo; rw [if_neg (by omega)]
          have hn : nd = max 0 (vD v less - 1) := by
            rw [hv]
            by_cases c0 : 0 < vD v less
            · rw [if_pos ⟨q4.mpr (by omega), c0⟩]; omega
            · rw [if_neg (fun z => c0 z.2)]; omega
          rw [hm, hn]
        · rw [if_neg c8, if_neg c8]
          have hm : mo p = (p : Int) := by unfold mo; rw [if_pos (by omega)]
          have hn : nd = vD v less := by
            rw [hv, if_neg (fun z => by have := q4.mp z.1; omega)]
          rw [hm, hn]
end
