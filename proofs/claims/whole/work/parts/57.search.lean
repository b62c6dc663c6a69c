/-! ===== the search to its end ===== -/
section
variable {v : Nat → Int} {less : Int}
theorem sumN_full {f : Nat → Int} (h : ∀ k, k < 576 → f k = 0 ∨ f k = 1) {s : Nat} (hs : s < 576) (h0 : f s = 0) : sumN f 576 ≤ 575 := by
  have h1 := sumN_up f s 1 576
  rw [if_pos hs, h0] at h1
  have h2 := (sumN_01 (f := upI f s 1) 576 (fun k hk => by
    by_cases e : k = s
    · rw [e, upI_s]; exact Or.inr rfl
    · rw [upI_n _ _ e]; exact h k hk)).2
  omega
theorem Iv_next {st : Int} {R : Nat → Nat → Int} {Q D ts : Nat → Int} {c mu cur : Int} (I : Iv v less st R Q D ts c mu cur) (hn : ∀ s : Nat, s < 576 → Q s = 1 → R 2 s ≠ mu) : Iv v less st R Q D ts c (mu + 1) cur := by
  obtain ⟨i1, i2, i3, i4, i5, i6⟩ := I
  refine ⟨i1, i2, fun s hs => ?_, i4, i5, i6⟩
  rcases i3 s hs with a | ⟨a1, a2, a3, a4, a5⟩
  · exact Or.inl a
  · refine Or.inr ⟨a1, a2, a3, a4, ?_⟩
    rcases a5 with ⟨b1, b2, b3, b4⟩ | ⟨b1, b2, b3⟩
    · have := hn s hs b1
      exact Or.inl ⟨b1, b2, by omega, by omega⟩
    · exact Or.inr ⟨b1, b2, by omega⟩
/-- what is so while the lists of minute mu are read -/
def Jx (v : Nat → Int) (less en mu : Int) (n : Nat) (h : MH) (R : Nat → Nat → Int) (Q D : Nat → Int) : Prop :=
  Es h ∧ Sr h R ∧ (∃ (ts : Nat → Int) (c : Int), Iv v less (pj (leV v) (ndV v)) R Q D ts c mu (-5)) ∧ Fx v less R ∧ (∀ s : Nat, s < 576 → D s = 1 → (s : Int) / 3 % 8 ≠ en) ∧ (n : Int) ≤ sumN D 576
theorem s_explore50 {F : Nat} (W : Wv v) (hl : 0 ≤ less) (hF : 100 ≤ F) {en mu : Int} (hen : -1 ≤ en ∧ en < 8) (hmu : 0 ≤ mu ∧ mu ≤ 20000) (k25 : (Option Nat) → Int32 → Int32 → MH → (Option MH)) : ∀ (d n fu : Nat) (h : MH) (R : Nat → Nat → Int) (Q D : Nat → Int), n + d = 576 → d < fu → Jx v less en mu n h R Q D →
    (∃ h' R' Q' D', b_S_explore_50 F k25 fu (some 17) (zI en) (zI mu) (zI (mu % 21)) (zI n) h = k25 (some 17) (zI en) (zI (mu + 1)) h' ∧ Sm h h' ∧ Jx v less en (mu + 1) 0 h' R' Q' D') ∨
    (∃ h' R' Q' D', ∃ u : Nat, b_S_explore_50 F k25 fu (some 17) (zI en) (zI mu) (zI (mu % 21)) (zI n) h = some h' ∧ Sm h h' ∧ Jx v less en mu 0 h' R' Q' D' ∧ u < 576 ∧ Q' u = 1 ∧ R' 2 u = mu ∧ (u : Int) / 3 % 8 = en) := by
  intro d
  induction d with
  | zero =>
    intro n fu h R Q D hn hf J
    obtain ⟨fu, rfl⟩ : ∃ q, fu = q + 1 := ⟨fu - 1, by omega⟩
    obtain ⟨E, S, ⟨ts, c, I⟩, X, hN, hD⟩ := J
    have hnq : ∀ s : Nat, s < 576 → Q s = 1 → R 2 s ≠ mu := by
      intro s hs hq
      exfalso
      rcases I.2.2.1 s hs with a | ⟨a1, a2, a3, a4, a5⟩
      · omega
      · have := sumN_full (f := D) (fun k hk => by rcases I.2.2.1 k hk with e | e <;> omega) hs (by omega)
        omega
    refine Or.inl ⟨h, R, Q, D, ?_, Sm_0 h, E, S, ⟨ts, c, Iv_next I hnq⟩, X, hN, by have := Iv_D I; omega⟩
    unfold b_S_explore_50 b_S_explore_112
    simp (disch := omega) only [l576, l1, zI_le, zI_add]
    rw [if_pos (by omega)]
  | succ d ih =>
    intro n fu h R Q D hn hf J
    obtain ⟨fu, rfl⟩ : ∃ q, fu = q + 1 := ⟨fu - 1, by omega⟩
    obtain ⟨E, S, ⟨ts, c, I⟩, X, hN, hD⟩ := id J
    obtain ⟨i1, i2, i3, i4, i5, i6⟩ := id I
    have hk : (mu % 21).toNat < 21 := by omega
    obtain ⟨⟨hh1, hh2⟩, hh3⟩ := i1.2 (mu % 21).toNat hk
    have at6 : f_C_at (some 23) (zI (mu % 21)) h = some (zI (R 6 (mu % 21).toNat)) := sr_at S 6 (c := 23) rfl (by omega) (by omega) (by omega) (show mu % 21 < (21 : Nat) by omega)
    have x576 : (576 : Int32) ≤ zI (n : Int) ↔ 576 ≤ (n : Int) := zI_le (a := 576) (by omega) (by omega) (by omega) (by omega)
    have xm : zI (R 6 (mu % 21).toNat) = (-1 : Int32) ↔ R 6 (mu % 21).toNat = -1 := zI_eq (b := -1) (by omega) (by omega) (by omega) (by omega)
    have hu : b_S_explore_50 F k25 (fu + 1) (some 17) (zI en) (zI mu) (zI (mu % 21)) (zI n) h = if R 6 (mu % 21).toNat = -1 then b_S_explore_112 F k25 (some 17) (zI en) (zI mu) h else if mj_irem (zI (R 6 (mu % 21).toNat) / (3 : Int32)) (8 : Int32) = zI en then some h else Option.bind (onc h (some 17) 6 (f_S_remove (some 17) (zI (R 6 (mu % 21).toNat)) h)) fun h12 => Option.bind (onc h12 (some 17) 6 (f_S_leave F (some 17) (zI (R 6 (mu % 21).toNat)) h12)) fun h14 => (b_S_explore_50 F k25 fu) (some 17) (zI en) (zI mu) (zI (mu % 21)) (zI n + (1 : Int32)) h14 := by
      conv => lhs; unfold b_S_explore_50
      simp only [sg5 S, at6, bd, x576, xm]
      rw [if_neg (show ¬ 576 ≤ (n : Int) by omega)]
    rw [hu]
    by_cases c1 : R 6 (mu % 21).toNat = -1
    · rw [if_pos c1]
      have hnq : ∀ s : Nat, s < 576 → Q s = 1 → R 2 s ≠ mu := by
        intro s hs hq z
        have := Lk_head i1 i2 (c - ts s).toNat s hs hq (by omega)
        rw [z] at this
        exact this c1
      refine Or.inl ⟨h, R, Q, D, ?_, Sm_0 h, E, S, ⟨ts, c, Iv_next I hnq⟩, X, hN, by have := Iv_D I; omega⟩
      unfold b_S_explore_112
      rw [l1, zI_add]
    · rw [if_neg c1]
      obtain ⟨u, hue⟩ : ∃ u : Nat, R 6 (mu % 21).toNat = u := ⟨(R 6 (mu % 21).toNat).toNat, by omega⟩
      obtain ⟨u3, u4, u5⟩ := hh3 u hue
      rw [hue] at hh1 hh2 ⊢
      have hu5 : u < 576 := by omega
      obtain ⟨a1, a2, a3, a4, a5, a6⟩ : 0 ≤ R 2 u ∧ R 2 u ≤ 20 * sumN D 576 ∧ pj (leV v) u = u ∧ R 2 u = mu ∧ D u = 0 ∧ ((u : Int) = pj (leV v) (ndV v) ∨ 0 < R 2 u ∧ ∃ n, Fw v less (pj (leV v) (ndV v)) n u (R 2 u) (R 3 u)) := by
        rcases i3 u hu5 with a | ⟨a1, a2, a3, a4, a5⟩
        · omega
        · refine ⟨a1, a2, a3, ?_, by omega, a4⟩
          rcases a5 with ⟨b1, b2, b3, b4⟩ | ⟨b1, b2, b3⟩
          · omega
          · omega
      have hD2 := Iv_D I
      have hb := Lk_be i1 hu5 u3
      have haf := Lk_af i1 hu5 u3
      rw [l3, l8, zI_div (a := (u : Int)) (by omega) (by omega) (by omega) (by omega), zI_rem (a := (u : Int) / 3) (by omega) (by omega) (by omega) (by omega)]
      simp (disch := omega) only [zI_eq]
      by_cases c2 : (u : Int) / 3 % 8 = en
      · rw [if_pos c2]
        exact Or.inr ⟨h, R, Q, D, u, rfl, Sm_0 h, ⟨E, S, ⟨ts, c, I⟩, X, hN, by omega⟩, hu5, u3, a4, c2⟩
      · rw [if_neg c2]
        obtain ⟨h1, e1, m1, S1⟩ := s_S_remove S (s := (u : Int)) (by omega) (by omega) (by rw [Int.toNat_natCast]; omega) (by rw [Int.toNat_natCast]; omega) (by rw [Int.toNat_natCast]; exact hb.1) (by rw [Int.toNat_natCast]; exact hb.2) (by rw [Int.toNat_natCast]; exact haf.1) (by rw [Int.toNat_natCast]; exact haf.2)
        rw [sr_on S, e1, bd, sr_on S1]
        have hsD : sumN (upI D u 1) 576 = sumN D 576 + 1 := by
          rw [sumN_up, if_pos hu5, a5]
          omega
        have I1 : Iv v less (pj (leV v) (ndV v)) (remR R u) (upI Q u 0) (upI D u 1) ts c mu u := by
          refine ⟨?_, fun p hp hq => ?_, fun s hs => ?_, ?_, i5, fun s hs hd hcur => ?_⟩
          · have := Lk_rem i1 hu5 u3
            show Lk (upI Q u 0) ts (R 2) (if 0 ≤ R 5 ((u : Int)).toNat then upI (R 4) (R 5 ((u : Int)).toNat).toNat (R 4 ((u : Int)).toNat) else R 4) (if 0 ≤ R 4 ((u : Int)).toNat then upI (R 5) (R 4 ((u : Int)).toNat).toNat (R 5 ((u : Int)).toNat) else R 5) (if 0 ≤ R 5 ((u : Int)).toNat then R 6 else upI (R 6) (R 2 ((u : Int)).toNat % 21).toNat (R 4 ((u : Int)).toNat))
            rw [Int.toNat_natCast]
            exact this
          · by_cases e : p = u
            · rw [e, upI_s] at hq; omega
            · rw [upI_n _ _ e] at hq; exact i2 p hp hq
          · show (R 2 s = 1000000 ∧ _) ∨ (0 ≤ R 2 s ∧ R 2 s ≤ _ ∧ _ ∧ (_ ∨ 0 < R 2 s ∧ ∃ n, Fw v less _ n s (R 2 s) (R 3 s)) ∧ _)
            rw [hsD]
            by_cases e : s = u
            · rw [e, upI_s, upI_s]
              exact Or.inr ⟨a1, by omega, a3, a6, Or.inr ⟨rfl, rfl, show R 2 u ≤ mu by omega⟩⟩
            · rw [upI_n _ _ e, upI_n _ _ e]
              rcases i3 s hs with b | ⟨b1, b2, b3, b4, b5⟩
              · exact Or.inl b
              · exact Or.inr ⟨b1, by omega, b3, b4, b5⟩
          · show upI (R 0) 3 (R 0 3 - 1) 3 = _
            rw [upI_s, i4, sumN_up, if_pos hu5, u3]
            omega
          · have e : s ≠ u := by omega
            rw [upI_n _ _ e] at hd
            exact i6 s hs hd (by omega)
        have L1 : Lv v less mu (upI D u 1) u 0 h1 (remR R u) := ⟨m1.es E, S1, ⟨_, _, _, I1⟩, ⟨X.1, X.2.1, X.2.2.1, X.2.2.2.1, X.2.2.2.2⟩, a4, fun p' hp' => by omega⟩
        obtain ⟨h2, R2, e2, m2, L2⟩ := s_leave18 (F := F) W hl hu5 a3 hmu (upI_s _ _ _) (by omega) 10 0 F h1 (remR R u) rfl (by omega) L1
        have e2' : f_S_leave F (some 17) (zI (u : Int)) h1 = some h2 := by
          unfold f_S_leave
          rw [l3, l8, zI_div (a := (u : Int)) (by omega) (by omega) (by omega) (by omega), zI_div (a := (u : Int) / 3) (by omega) (by omega) (by omega) (by omega), zI_rem (a := (u : Int) / 3) (by omega) (by omega) (by omega) (by omega), show (u : Int) / 3 / 8 = (u : Int) / 24 by omega]
          exact e2
        rw [e2', bd, l1, zI_add]
        obtain ⟨E2, S2, ⟨Q2, ts2, c2', I2⟩, X2, hR2, hC2⟩ := L2
        obtain ⟨j1, j2, j3, j4, j5, j6⟩ := I2
        have hCs := Cp_Cs W X2.2.2.2.1 hC2
        have J2 : Jx v less en mu (n + 1) h2 R2 Q2 (upI D u 1) := by
          refine ⟨E2, S2, ⟨ts2, c2', j1, j2, j3, j4, j5, fun s hs hd hcur => ?_⟩, X2, fun s hs hd => ?_, by omega⟩
          · by_cases e : (s : Int) = u
            · rw [e]; exact hCs
            · exact j6 s hs hd e
          · by_cases e : s = u
            · rw [e]; exact c2
            · rw [upI_n _ _ e] at hd; exact hN s hs hd
        rcases ih (n + 1) fu h2 R2 Q2 (upI D u 1) (by omega) (by omega) J2 with ⟨h3, R3, Q3, D3, e3, m3, J3⟩ | ⟨h3, R3, Q3, D3, w, e3, m3, J3, w1, w2, w3, w4⟩
        · exact Or.inl ⟨h3, R3, Q3, D3, e3, m1.tr (m2.tr m3), J3⟩
        · exact Or.inr ⟨h3, R3, Q3, D3, w, e3, m1.tr (m2.tr m3), J3, w1, w2, w3, w4⟩
theorem Ex_full {en mu : Int} {n : Nat} {h : MH} {R : Nat → Nat → Int} {Q D : Nat → Int} (J : Jx v less en mu n h R Q D) (hq : ∀ s : Nat, s < 576 → Q s ≠ 1) : Ex v less en 1000000000 (R 2) (R 3) := by
  obtain ⟨E, S, ⟨ts, c, I⟩, X, hN, hD⟩ := J
  have hD2 := Iv_D I
  obtain ⟨i1, i2, i3, i4, i5, i6⟩ := I
  refine ⟨i5, fun s hs => ?_, fun s hs hs2 => ?_, fun s hs h1 h2 => ?_, Or.inl rfl⟩
  · rcases i3 s hs with b | b <;> omega
  · rcases i3 s hs with b | ⟨b1, b2, b3, b4, b5⟩
    · omega
    · exact ⟨by omega, b3, b4⟩
  · rcases i3 s hs with b | ⟨b1, b2, b3, b4, b5⟩
    · omega
    · rcases b5 with b5 | b5
      · exact absurd b5.1 (hq s hs)
      · exact i6 s hs b5.2.1 (by omega)
theorem Ex_part {en mu : Int} {n : Nat} {h : MH} {R : Nat → Nat → Int} {Q D : Nat → Int} (hmu : 0 ≤ mu ∧ mu ≤ 20000) (J : Jx v less en mu n h R Q D) {u : Nat} (u1 : u < 576) (u2 : Q u = 1) (u3 : R 2 u = mu) (u4 : (u : Int) / 3 % 8 = en) : Ex v less en mu (R 2) (R 3) := by
  obtain ⟨E, S, ⟨ts, c, I⟩, X, hN, hD⟩ := J
  have hD2 := Iv_D I
  obtain ⟨i1, i2, i3, i4, i5, i6⟩ := I
  refine ⟨i5, fun s hs => ?_, fun s hs hs2 => ?_, fun s hs h1 h2 => ?_, Or.inr ⟨⟨u, u1, u3, by omega, u4⟩, fun s hs he => ?_⟩⟩
  · rcases i3 s hs with b | b <;> omega
  · rcases i3 s hs with b | ⟨b1, b2, b3, b4, b5⟩
    · omega
    · exact ⟨by omega, b3, b4⟩
  · rcases i3 s hs with b | ⟨b1, b2, b3, b4, b5⟩
    · omega
    · rcases b5 with b5 | b5
      · omega
      · exact i6 s hs b5.2.1 (by omega)
  · rcases i3 s hs with b | ⟨b1, b2, b3, b4, b5⟩
    · omega
    · rcases b5 with b5 | b5
      · omega
      · exact absurd he (hN s hs b5.2.1)
theorem s_explore25 {F : Nat} (W : Wv v) (hl : 0 ≤ less) (hF : 1000 ≤ F) {en : Int} (hen : -1 ≤ en ∧ en < 8) : ∀ (d mu fu : Nat) (h : MH) (R : Nat → Nat → Int) (Q D : Nat → Int), mu + d = 11521 → d < fu → Jx v less en mu 0 h R Q D →
    ∃ h' R' M, b_S_explore_25 F fu (some 17) (zI en) (zI (mu : Int)) h = some h' ∧ Sm h h' ∧ Sr h' R' ∧ Ex v less en M (R' 2) (R' 3) ∧ (en = -1 → M = 1000000000) := by
  intro d
  induction d with
  | zero =>
    intro mu fu h R Q D hn hf J
    obtain ⟨fu, rfl⟩ : ∃ q, fu = q + 1 := ⟨fu - 1, by omega⟩
    refine ⟨h, R, 1000000000, ?_, Sm_0 h, J.2.1, Ex_full J (fun s hs hq => ?_), fun _ => rfl⟩
    · unfold b_S_explore_25
      simp (disch := omega) only [l11520, zI_lt]
      rw [if_pos (by omega)]
    · obtain ⟨E, S, ⟨ts, c, I⟩, X, hN, hD⟩ := J
      rcases I.2.2.1 s hs with a | ⟨a1, a2, a3, a4, a5⟩
      · omega
      · have := sumN_full (f := D) (fun k hk => by rcases I.2.2.1 k hk with e | e <;> omega) hs (by omega)
        omega
  | succ d ih =>
    intro mu fu h R Q D hn hf J
    obtain ⟨fu, rfl⟩ : ∃ q, fu = q + 1 := ⟨fu - 1, by omega⟩
    obtain ⟨E, S, ⟨ts, c, I⟩, X, hN, hD⟩ := id J
    obtain ⟨i1, i2, i3, i4, i5, i6⟩ := id I
    have hQ01 : ∀ k, k < 576 → Q k = 0 ∨ Q k = 1 := fun k hk => by rcases i3 k hk with e | e <;> omega
    have hw := sumN_01 (f := Q) 576 hQ01
    have x1 : (11520 : Int32) < zI (mu : Int) ↔ 11520 < (mu : Int) := zI_lt (a := 11520) (by omega) (by omega) (by omega) (by omega)
    have x2 : zI (R 0 3) ≤ (0 : Int32) ↔ R 0 3 ≤ 0 := zI_le (b := 0) (by omega) (by omega) (by omega) (by omega)
    have hu : b_S_explore_25 F (fu + 1) (some 17) (zI en) (zI (mu : Int)) h = if R 0 3 ≤ 0 then some h else b_S_explore_50 F (b_S_explore_25 F fu) F (some 17) (zI en) (zI (mu : Int)) (zI ((mu : Int) % 21)) (zI ((0 : Nat) : Int)) h := by
      conv => lhs; unfold b_S_explore_25
      simp only [x1, sg11 S, bd, x2]
      rw [if_neg (show ¬ 11520 < (mu : Int) by omega), l21, zI_rem (a := (mu : Int)) (by omega) (by omega) (by omega) (by omega)]
      rfl
    rw [hu]
    by_cases c1 : R 0 3 ≤ 0
    · rw [if_pos c1]
      refine ⟨h, R, 1000000000, rfl, Sm_0 h, S, Ex_full J (fun s hs hq => ?_), fun _ => rfl⟩
      have h1 := sumN_up Q s 0 576
      rw [if_pos hs, hq] at h1
      have h2 := (sumN_01 (f := upI Q s 0) 576 (fun k hk => by
        by_cases e : k = s
        · rw [e, upI_s]; exact Or.inl rfl
        · rw [upI_n _ _ e]; exact hQ01 k hk)).1
      omega
    · rw [if_neg c1]
      rcases s_explore50 (F := F) W hl (by omega) hen (mu := (mu : Int)) (by omega) (b_S_explore_25 F fu) 576 0 F h R Q D rfl (by omega) J with ⟨h3, R3, Q3, D3, e3, m3, J3⟩ | ⟨h3, R3, Q3, D3, w, e3, m3, J3, w1, w2, w3, w4⟩
      · obtain ⟨h4, R4, M, e4, m4, S4, X4, z4⟩ := ih (mu + 1) fu h3 R3 Q3 D3 (by omega) (by omega) J3
        exact ⟨h4, R4, M, by rw [e3]; exact e4, m3.tr m4, S4, X4, z4⟩
      · exact ⟨h3, R3, mu, e3, m3, J3.2.1, Ex_part (by omega) J3 w1 w2 w3 w4, fun z => by omega⟩
theorem sumN_0 : ∀ n, sumN (fun _ => (0 : Int)) n = 0
  | 0 => rfl
  | n + 1 => by
    unfold sumN
    rw [sumN_0 n]
    rfl
theorem s_explore {F : Nat} (W : Wv v) (hl : 0 ≤ less) (hF : 1000000 ≤ F) {en : Int} (hen : -1 ≤ en ∧ en < 8) {a : Nat} (ha : 26 ≤ a) {h : MH} {R : Nat → Nat → Int} (E : Es h) (B : Bs h a v) (S : Sr h R) :
    ∃ h' R' M, f_S_explore F (some 17) (some a) (zI (vD v less)) (zI en) h = some h' ∧ Sm h h' ∧ Sr h' R' ∧ Ex v less en M (R' 2) (R' 3) ∧ (en = -1 → M = 1000000000) := by
  have hsr := pj_r (le := leV v) (ndV_r W).1 (ndV_r W).2
  unfold f_S_explore
  obtain ⟨h1, R1, e1, m1, S1, p1, p2, p3, p4, p5, p6, p7⟩ := s_prepare hF ha W E B S (vD v less)
  rw [sr_on S, e1, bd, sr_on S1]
  obtain ⟨h2, R2, e2, m2, S2, q1, q2⟩ := s_choosePacers hF ha W (Bs_Sm m1 ha B) S1
  rw [e2, bd, sg10 S2, bd, sr_on S2, q1 0 (by decide), p3, l0, lN0]
  obtain ⟨st, hst⟩ : ∃ st : Nat, pj (leV v) (ndV v) = st := ⟨(pj (leV v) (ndV v)).toNat, by omega⟩
  have hh : R2 6 ((0 : Int) % 21).toNat = -1 := by
    rw [q1 6 (by decide)]
    exact p6 _ (by decide)
  obtain ⟨h3, e3, m3, S3⟩ := s_S_add S2 (s := pj (leV v) (ndV v)) (tot := 0) (code := -1000000) hsr.1 hsr.2 (by omega) (by omega) (by rw [hh]; omega) (by rw [hh]; omega)
  rw [e3, bd]
  have h2r : ∀ s : Nat, s < 576 → R2 2 s = 1000000 := fun s hs => by rw [q1 2 (by decide)]; exact p5 s hs
  have hstn : (pj (leV v) (ndV v)).toNat = st := by omega
  have hs5 : st < 576 := by omega
  have e2' : addR R2 (pj (leV v) (ndV v)) 0 (-1000000) 2 = upI (R2 2) st 0 := by
    show upI (R2 2) (pj (leV v) (ndV v)).toNat 0 = _
    rw [hstn]
  have e3' : addR R2 (pj (leV v) (ndV v)) 0 (-1000000) 3 = upI (R2 3) st (-1000000) := by
    show upI (R2 3) (pj (leV v) (ndV v)).toNat (-1000000) = _
    rw [hstn]
  have L0 : Lk (fun _ => 0) (fun _ => 0) (R2 2) (R2 4) (R2 5) (R2 6) := by
    refine ⟨fun s _ hq => absurd hq (show ¬ (0 : Int) = 1 by decide), fun k hk => ?_⟩
    rw [q1 6 (by decide), p6 k hk]
    exact ⟨by omega, fun s hs => by omega⟩
  have L1 := Lk_add L0 hs5 rfl (tot := 0) (by omega) (c := 0) (fun p _ hq => absurd hq (show ¬ (0 : Int) = 1 by decide))
  have J : Jx v less en ((0 : Nat) : Int) 0 h3 (addR R2 (pj (leV v) (ndV v)) 0 (-1000000)) (upI (fun _ => 0) st 1) (fun _ => 0) := by
    refine ⟨(m1.tr (m2.tr m3)).es E, S3, ⟨upI (fun _ => 0) st 0, 1, ?_, fun p hp hq => ?_, fun s hs => ?_, ?_, ?_, fun s hs hd => absurd hd (show ¬ (0 : Int) = 1 by decide)⟩, ⟨?_, ?_, ?_, q2, ?_⟩, fun s hs hd => absurd hd (show ¬ (0 : Int) = 1 by decide), by rw [sumN_0]; omega⟩
    · rw [e2']
      show Lk _ _ _ (upI (R2 4) (pj (leV v) (ndV v)).toNat (R2 6 ((0 : Int) % 21).toNat)) (if 0 ≤ R2 6 ((0 : Int) % 21).toNat then upI (upI (R2 5) (pj (leV v) (ndV v)).toNat (-1)) (R2 6 ((0 : Int) % 21).toNat).toNat (pj (leV v) (ndV v)) else upI (R2 5) (pj (leV v) (ndV v)).toNat (-1)) (upI (R2 6) ((0 : Int) % 21).toNat (pj (leV v) (ndV v)))
      rw [hstn, hst]
      exact L1
    · by_cases e : p = st
      · rw [e, upI_s]; decide
      · rw [upI_n _ _ e] at hq; exact absurd hq (show ¬ (0 : Int) = 1 by decide)
    · rw [e2', e3', sumN_0]
      by_cases e : s = st
      · rw [e, upI_s, upI_s]
        exact Or.inr ⟨by omega, by omega, by rw [← hst, pj_pj], Or.inl hst.symm, Or.inl ⟨rfl, rfl, by omega, by omega⟩⟩
      · rw [upI_n _ _ e, upI_n _ _ e]
        exact Or.inl ⟨h2r s hs, rfl, rfl⟩
    · show upI (R2 0) 3 (R2 0 3 + 1) 3 = _
      rw [upI_s, q1 0 (by decide), p4, sumN_up, sumN_0, if_pos hs5]
      rfl
    · rw [e2', e3', hstn, upI_s, upI_s]
      exact ⟨rfl, rfl⟩
    · show upI (R2 0) 3 _ 0 = _
      rw [upI_n _ _ (by decide), q1 0 (by decide)]; exact p1
    · show upI (R2 0) 3 _ 1 = _
      rw [upI_n _ _ (by decide), q1 0 (by decide)]; exact p2
    · show upI (R2 0) 3 _ 2 = _
      rw [upI_n _ _ (by decide), q1 0 (by decide)]; exact p3
    · show ∀ j : Nat, j < 192 → R2 1 j = _
      rw [q1 1 (by decide)]; exact p7
  obtain ⟨h4, R4, M, e4, m4, S4, X4, z4⟩ := s_explore25 (F := F) W hl (by omega) hen 11521 0 F h3 _ _ _ rfl (by omega) J
  exact ⟨h4, R4, M, e4, m1.tr (m2.tr (m3.tr m4)), S4, X4, z4⟩
end
