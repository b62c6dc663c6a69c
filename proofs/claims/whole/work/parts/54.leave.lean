/-! ===== one state of the search is left ===== -/
def Iv (v : Nat → Int) (less st : Int) (R : Nat → Nat → Int) (Q D ts : Nat → Int) (c mu cur : Int) : Prop :=
  Lk Q ts (R 2) (R 4) (R 5) (R 6) ∧
  (∀ p : Nat, p < 576 → Q p = 1 → ts p < c) ∧
  (∀ s : Nat, s < 576 → (R 2 s = 1000000 ∧ Q s = 0 ∧ D s = 0) ∨ (0 ≤ R 2 s ∧ R 2 s ≤ 20 * sumN D 576 ∧ pj (leV v) s = s ∧ ((s : Int) = st ∨ 0 < R 2 s ∧ ∃ n, Fw v less st n s (R 2 s) (R 3 s)) ∧ ((Q s = 1 ∧ D s = 0 ∧ mu ≤ R 2 s ∧ R 2 s ≤ mu + 20) ∨ (Q s = 0 ∧ D s = 1 ∧ R 2 s ≤ mu)))) ∧
  R 0 3 = sumN Q 576 ∧ (R 2 st.toNat = 0 ∧ R 3 st.toNat = -1000000) ∧
  ∀ s : Nat, s < 576 → D s = 1 → (s : Int) ≠ cur → Cs v less st (R 2) (R 3) s
theorem sumN_01 {f : Nat → Int} : ∀ n : Nat, (∀ k, k < n → f k = 0 ∨ f k = 1) → 0 ≤ sumN f n ∧ sumN f n ≤ n := by
  intro n h
  have := sumN_r f 1 n (fun k hk => by have := h k hk; omega)
  omega
theorem Iv_D {v : Nat → Int} {less st : Int} {R : Nat → Nat → Int} {Q D ts : Nat → Int} {c mu cur : Int} (I : Iv v less st R Q D ts c mu cur) : 0 ≤ sumN D 576 ∧ sumN D 576 ≤ 576 := by
  refine sumN_01 576 (fun k hk => ?_)
  rcases I.2.2.1 k hk with e | e <;> omega
theorem Fw_q {v : Nat → Int} (W : Wv v) {less st : Int} : ∀ (n : Nat) {k c q : Int}, Fw v less st n k c q → 0 ≤ q ∧ q ≤ 37
  | 0, k, c, q, h => by
    have w4 := W.2.2.2.1
    obtain ⟨i, m, k', a1, a2, a3, -, -, -, e⟩ := h
    omega
  | n + 1, k, c, q, h => by
    obtain ⟨i, m, k0, c0, k', a1, a2, a3, hf, -⟩ := h
    exact Fw_q W n hf
theorem Cs_mono {v : Nat → Int} {less st : Int} {mi fi mi' fi' : Nat → Int} (W : Wv v) {s : Nat} (hs : s < 576) (h : Cs v less st mi fi s) (h1 : ∀ u : Nat, u < 576 → mi' u ≤ mi u ∧ (mi' u = mi u → fi' u ≤ fi u)) (h2 : mi' s = mi s ∧ fi' s = fi s) : Cs v less st mi' fi' s := by
  intro i m k' a1 a2 a3 he
  obtain ⟨g1, g2⟩ := h i m k' a1 a2 a3 he
  have hr := eV_r W (by omega) (by omega) he
  have hp := pj_r (le := leV v) hr.1 hr.2
  obtain ⟨b1, b2⟩ := h1 (pj (leV v) k').toNat (by omega)
  rw [Int.toNat_natCast] at g1 g2 ⊢
  rw [h2.1, h2.2]
  refine ⟨by omega, fun z => ?_⟩
  have e : mi' (pj (leV v) k').toNat = mi (pj (leV v) k').toNat := by omega
  exact Int.le_trans (b2 e) (g2 (by omega))
section
variable {v : Nat → Int} {less st : Int} {h : MH} {R : Nat → Nat → Int} {Q D ts : Nat → Int} {c mu cur : Int}
/-- what an offer leaves behind -/
def Of (v : Nat → Int) (less st : Int) (R : Nat → Nat → Int) (D : Nat → Int) (mu cur : Int) (t : Nat) (total code : Int) (R' : Nat → Nat → Int) : Prop :=
  (∃ (Q' ts' : Nat → Int) (c' : Int), Iv v less st R' Q' D ts' c' mu cur) ∧ (R' 1 = R 1 ∧ R' 7 = R 7 ∧ R' 8 = R 8 ∧ R' 0 0 = R 0 0 ∧ R' 0 1 = R 0 1 ∧ R' 0 2 = R 0 2) ∧
  (∀ u : Nat, u < 576 → R' 2 u ≤ R 2 u ∧ (R' 2 u = R 2 u → R' 3 u ≤ R 3 u)) ∧ (∀ u : Nat, u < 576 → D u = 1 → R' 2 u = R 2 u ∧ R' 3 u = R 3 u) ∧ R' 2 t ≤ total ∧ (R' 2 t = total → R' 3 t ≤ code)
theorem Iv_add (W : Wv v) (I : Iv v less st R Q D ts c mu cur) {t : Nat} (ht : t < 576) (tp : pj (leV v) t = t) {total code : Int} (t1 : mu < total) (t2 : total ≤ mu + 20) (t3 : total ≤ 20 * sumN D 576) (t4 : ∃ n, Fw v less st n t total code) (t5 : total < R 2 t) (t6 : D t = 0) (hmu : 0 ≤ mu)
    (R1 : Nat → Nat → Int) (Q0 : Nat → Int) (L : Lk Q0 ts (R1 2) (R1 4) (R1 5) (R1 6)) (z1 : Q0 t = 0) (z2 : ∀ s : Nat, s ≠ t → Q0 s = Q s) (z3 : R1 2 = R 2) (z4 : R1 3 = R 3) (z5 : R1 0 3 = sumN Q0 576) (z6 : R1 1 = R 1 ∧ R1 7 = R 7 ∧ R1 8 = R 8 ∧ R1 0 0 = R 0 0 ∧ R1 0 1 = R 0 1 ∧ R1 0 2 = R 0 2) :
    Of v less st R D mu cur t total code (addR R1 t total code) := by
  obtain ⟨i1, i2, i3, i4, i5, i6⟩ := I
  have hc : ∀ p : Nat, p < 576 → Q0 p = 1 → ts p < c := by
    intro p hp hq
    by_cases e : p = t
    · rw [e] at hq; omega
    · rw [z2 p e] at hq; exact i2 p hp hq
  have hA := Lk_add L ht z1 (tot := total) (by omega) hc
  have e2 : addR R1 t total code 2 = upI (R 2) t total := by
    show upI (R1 2) ((t : Int)).toNat total = _
    rw [Int.toNat_natCast, z3]
  have e3 : addR R1 t total code 3 = upI (R 3) t code := by
    show upI (R1 3) ((t : Int)).toNat code = _
    rw [Int.toNat_natCast, z4]
  have hst : t ≠ st.toNat := by
    intro z
    rw [z, i5.1] at t5
    omega
  have mono : ∀ u : Nat, u < 576 → upI (R 2) t total u ≤ R 2 u ∧ (upI (R 2) t total u = R 2 u → upI (R 3) t code u ≤ R 3 u) := by
    intro u hu
    by_cases e : u = t
    · rw [e, upI_s]
      exact ⟨by omega, fun z => by omega⟩
    · rw [upI_n _ _ e, upI_n _ _ e]
      exact ⟨Int.le_refl _, fun _ => Int.le_refl _⟩
  have same : ∀ u : Nat, u < 576 → D u = 1 → upI (R 2) t total u = R 2 u ∧ upI (R 3) t code u = R 3 u := by
    intro u hu hd
    have e : u ≠ t := fun z => by rw [z] at hd; omega
    rw [upI_n _ _ e, upI_n _ _ e]
    exact ⟨rfl, rfl⟩
  unfold Of
  rw [e2, e3]
  refine ⟨⟨upI Q0 t 1, upI ts t c, c + 1, ?_⟩, z6.1 ▸ ⟨rfl, z6.2.1, z6.2.2.1, z6.2.2.2.1, z6.2.2.2.2.1, z6.2.2.2.2.2⟩, mono, same, ?_, ?_⟩
  · unfold Iv
    rw [e2, e3]
    refine ⟨?_, ?_, ?_, ?_, ?_, ?_⟩
    · have := hA
      rw [z3] at this
      show Lk _ _ _ (upI (R1 4) ((t : Int)).toNat (R1 6 (total % 21).toNat)) (if 0 ≤ R1 6 (total % 21).toNat then upI (upI (R1 5) ((t : Int)).toNat (-1)) (R1 6 (total % 21).toNat).toNat t else upI (R1 5) ((t : Int)).toNat (-1)) (upI (R1 6) (total % 21).toNat t)
      rw [Int.toNat_natCast]
      exact this
    · intro p hp hq
      by_cases e : p = t
      · rw [e, upI_s]; omega
      · rw [upI_n _ _ e] at hq ⊢
        have := hc p hp hq
        omega
    · intro s hs
      by_cases e : s = t
      · rw [e, upI_s, upI_s, upI_s]
        refine Or.inr ⟨by omega, t3, tp, Or.inr ⟨by omega, t4⟩, Or.inl ⟨rfl, t6, by omega, t2⟩⟩
      · rw [upI_n _ _ e, upI_n _ _ e, upI_n _ _ e, z2 s e]
        exact i3 s hs
    · show upI (R1 0) 3 (R1 0 3 + 1) 3 = _
      rw [upI_s, z5, sumN_up, if_pos ht, z1]
      omega
    · rw [upI_n _ _ hst.symm, upI_n _ _ hst.symm]
      exact i5
    · intro s hs hd hcur
      exact Cs_mono W hs (i6 s hs hd hcur) mono (same s hs hd)
  · rw [upI_s]; omega
  · intro _
    rw [upI_s]; omega
set_option maxHeartbeats 1000000 in
theorem s_offer (W : Wv v) (S : Sr h R) (I : Iv v less st R Q D ts c mu cur) {t : Nat} (ht : t < 576) (tp : pj (leV v) t = t) {total code : Int} (t1 : mu < total) (t2 : total ≤ mu + 20) (t3 : total ≤ 20 * sumN D 576) (t4 : ∃ n, Fw v less st n t total code) (hmu : 0 ≤ mu) :
    ∃ h' R', f_S_offer (some 17) (zI t) (zI total) (zI code) h = some h' ∧ Sm h h' ∧ Sr h' R' ∧ Of v less st R D mu cur t total code R' := by
  have hD := Iv_D I
  have hcode : 0 ≤ code ∧ code ≤ 37 := by
    obtain ⟨n, hn⟩ := t4
    exact Fw_q W n hn
  obtain ⟨i1, i2, i3, i4, i5, i6⟩ := id I
  have hm : 0 ≤ R 2 t ∧ R 2 t ≤ 1000000 := by
    rcases i3 t ht with e | e <;> omega
  have none : (R 2 t ≤ total ∧ (R 2 t = total → R 3 t ≤ code)) → Of v less st R D mu cur t total code R := fun z => ⟨⟨Q, ts, c, I⟩, ⟨rfl, rfl, rfl, rfl, rfl, rfl⟩, fun u _ => ⟨Int.le_refl _, fun _ => Int.le_refl _⟩, fun u _ _ => ⟨rfl, rfl⟩, z.1, z.2⟩
  unfold f_S_offer
  have hat := sr_at S 2 (c := 19) (k := (t : Int)) rfl (by omega) (by omega) (by omega) (show (t : Int) < (576 : Nat) by omega)
  rw [Int.toNat_natCast] at hat
  simp only [sg1 S, hat, bd]
  simp (disch := omega) only [zI_le, zI_eq, lE6]
  by_cases c1 : R 2 t ≤ total
  · rw [if_pos c1]
    by_cases c2 : total = R 2 t
    · rw [if_pos c2, sg2 S, bd, sr_at S 3 (c := 20) (k := (t : Int)) rfl (by omega) (by omega) (by omega) (show (t : Int) < (576 : Nat) by omega)]
      simp only [bd, Int.toNat_natCast]
      have h3 : -1000000 ≤ R 3 t ∧ R 3 t ≤ 37 ∧ (R 3 t ≤ code ∨ t ≠ st.toNat) := by
        rcases i3 t ht with e | ⟨a1, a2, a3, a4, a5⟩
        · omega
        · rcases a4 with e | ⟨e1, n, e2⟩
          · rw [show t = st.toNat by omega, i5.2]
            omega
          · have := Fw_q W n e2
            refine ⟨by omega, by omega, Or.inr ?_⟩
            intro z
            rw [z, i5.1] at e1
            omega
      simp (disch := omega) only [zI_le]
      by_cases c3 : R 3 t ≤ code
      · rw [if_pos c3]
        exact ⟨h, R, rfl, Sm_0 h, S, none ⟨c1, fun _ => c3⟩⟩
      · rw [if_neg c3]
        obtain ⟨h1, e1, m1, S1⟩ := sr_put S 3 (c := 20) (k := (t : Int)) rfl (by omega) (by omega) code (by omega) (show (t : Int) < (576 : Nat) by omega)
        rw [e1, bd]
        refine ⟨h1, _, rfl, m1, S1, ?_⟩
        have hst : t ≠ st.toNat := by
          rcases h3.2.2 with e | e
          · omega
          · exact e
        have ev : upR R 3 (upI (R 3) ((t : Int)).toNat code) 3 = upI (R 3) t code := by
          show upI (R 3) ((t : Int)).toNat code = _
          rw [Int.toNat_natCast]
        have mono : ∀ u : Nat, u < 576 → R 2 u ≤ R 2 u ∧ (R 2 u = R 2 u → upI (R 3) t code u ≤ R 3 u) := by
          intro u hu
          refine ⟨Int.le_refl _, fun _ => ?_⟩
          by_cases e : u = t
          · rw [e, upI_s]; omega
          · rw [upI_n _ _ e]; exact Int.le_refl _
        have hDt : ∀ u : Nat, u < 576 → D u = 1 → u ≠ t := by
          intro u hu hd z
          rw [z] at hd
          rcases i3 t ht with e | e <;> omega
        have same : ∀ u : Nat, u < 576 → D u = 1 → R 2 u = R 2 u ∧ upI (R 3) t code u = R 3 u := fun u hu hd => ⟨rfl, upI_n _ _ (hDt u hu hd)⟩
        unfold Of
        rw [ev]
        refine ⟨⟨Q, ts, c, ?_⟩, ⟨rfl, rfl, rfl, rfl, rfl, rfl⟩, mono, same, c1, fun _ => by rw [upI_s]; exact Int.le_refl _⟩
        unfold Iv
        rw [ev]
        refine ⟨i1, i2, fun s hs => ?_, i4, ⟨i5.1, ?_⟩, fun s hs hd hcur => Cs_mono W hs (i6 s hs hd hcur) mono (same s hs hd)⟩
        · show (R 2 s = 1000000 ∧ _) ∨ (0 ≤ R 2 s ∧ _ ∧ _ ∧ (_ ∨ 0 < R 2 s ∧ ∃ n, Fw v less st n s (R 2 s) (upI (R 3) t code s)) ∧ _)
          by_cases e : s = t
          · rw [e, upI_s]
            rcases i3 t ht with a | ⟨a1, a2, a3, a4, a5⟩
            · exact Or.inl a
            · refine Or.inr ⟨a1, a2, a3, Or.inr ⟨by omega, ?_⟩, a5⟩
              rw [← c2]
              exact t4
          · rw [upI_n _ _ e]
            exact i3 s hs
        · rw [upI_n _ _ hst.symm]
          exact i5.2
    · rw [if_neg c2]
      exact ⟨h, R, rfl, Sm_0 h, S, none ⟨c1, fun z => absurd z.symm c2⟩⟩
  · rw [if_neg c1]
    unfold b_S_offer_30
    by_cases c2 : R 2 t = 1000000
    · rw [if_pos c2, sr_on S]
      have a : Q t = 0 ∧ D t = 0 := by
        rcases i3 t ht with e | e <;> omega
      have hh := Lk_hd i1 (k := (total % 21).toNat) (by omega)
      obtain ⟨h1, e1, m1, S1⟩ := s_S_add S (s := (t : Int)) (tot := total) (code := code) (by omega) (by omega) (by omega) (by omega) hh.1 hh.2
      rw [e1, bd]
      exact ⟨h1, _, rfl, m1, S1, Iv_add W I ht tp t1 t2 t3 t4 (by omega) a.2 hmu R Q i1 a.1 (fun s _ => rfl) rfl rfl i4 ⟨rfl, rfl, rfl, rfl, rfl, rfl⟩⟩
    · rw [if_neg c2]
      have a : Q t = 1 ∧ D t = 0 := by
        rcases i3 t ht with e | e <;> omega
      have h100 : R 2 t ≤ 100000 := by
        rcases i3 t ht with e | e <;> omega
      have hb := Lk_be i1 ht a.1
      have haf := Lk_af i1 ht a.1
      obtain ⟨h0, e0, m0, S0⟩ := s_S_remove S (s := (t : Int)) (by omega) (by omega) (by rw [Int.toNat_natCast]; omega) (by rw [Int.toNat_natCast]; omega) (by rw [Int.toNat_natCast]; exact hb.1) (by rw [Int.toNat_natCast]; exact hb.2) (by rw [Int.toNat_natCast]; exact haf.1) (by rw [Int.toNat_natCast]; exact haf.2)
      rw [sr_on S, e0, bd, sr_on S0]
      have L0 : Lk (upI Q t 0) ts (remR R t 2) (remR R t 4) (remR R t 5) (remR R t 6) := by
        have := Lk_rem i1 ht a.1
        show Lk (upI Q t 0) ts (R 2) (if 0 ≤ R 5 ((t : Int)).toNat then upI (R 4) (R 5 ((t : Int)).toNat).toNat (R 4 ((t : Int)).toNat) else R 4) (if 0 ≤ R 4 ((t : Int)).toNat then upI (R 5) (R 4 ((t : Int)).toNat).toNat (R 5 ((t : Int)).toNat) else R 5) (if 0 ≤ R 5 ((t : Int)).toNat then R 6 else upI (R 6) (R 2 ((t : Int)).toNat % 21).toNat (R 4 ((t : Int)).toNat))
        rw [Int.toNat_natCast]
        exact this
      have hh := Lk_hd L0 (k := (total % 21).toNat) (by omega)
      obtain ⟨h1, e1, m1, S1⟩ := s_S_add S0 (s := (t : Int)) (tot := total) (code := code) (by omega) (by omega) (by omega) (by omega) hh.1 hh.2
      rw [e1, bd]
      refine ⟨h1, _, rfl, m0.tr m1, S1, Iv_add W I ht tp t1 t2 t3 t4 (by omega) a.2 hmu (remR R t) (upI Q t 0) L0 (upI_s _ _ _) (fun s hs => upI_n _ _ hs) rfl rfl ?_ ⟨rfl, rfl, rfl, rfl, rfl, rfl⟩⟩
      show upI (R 0) 3 (R 0 3 - 1) 3 = _
      rw [upI_s, i4, sumN_up, if_pos ht, a.1]
      omega
end
