/-! ===== the lists of what waits ===== -/
def Lk (Q ts mi af be hd : Nat → Int) : Prop :=
  (∀ s : Nat, s < 576 → Q s = 1 → (0 ≤ mi s ∧ -1 ≤ be s ∧ be s < 576 ∧ -1 ≤ af s ∧ af s < 576) ∧ (be s = -1 → hd (mi s % 21).toNat = s) ∧ (∀ p : Nat, be s = p → Q p = 1 ∧ mi p % 21 = mi s % 21 ∧ af p = s ∧ ts s < ts p) ∧ (∀ p : Nat, af s = p → Q p = 1 ∧ mi p % 21 = mi s % 21 ∧ be p = s)) ∧
  ∀ k : Nat, k < 21 → (-1 ≤ hd k ∧ hd k < 576) ∧ ∀ s : Nat, hd k = s → Q s = 1 ∧ mi s % 21 = k ∧ be s = -1
theorem Lk_hd {Q ts mi af be hd : Nat → Int} (L : Lk Q ts mi af be hd) {k : Nat} (hk : k < 21) : -1 ≤ hd k ∧ hd k < 576 := (L.2 k hk).1
theorem Lk_be {Q ts mi af be hd : Nat → Int} (L : Lk Q ts mi af be hd) {s : Nat} (hs : s < 576) (hq : Q s = 1) : -1 ≤ be s ∧ be s < 576 := ⟨(L.1 s hs hq).1.2.1, (L.1 s hs hq).1.2.2.1⟩
theorem Lk_af {Q ts mi af be hd : Nat → Int} (L : Lk Q ts mi af be hd) {s : Nat} (hs : s < 576) (hq : Q s = 1) : -1 ≤ af s ∧ af s < 576 := ⟨(L.1 s hs hq).1.2.2.2.1, (L.1 s hs hq).1.2.2.2.2⟩
/-- where something waits, the list has a head -/
theorem Lk_head {Q ts mi af be hd : Nat → Int} (L : Lk Q ts mi af be hd) {c : Int} (hc : ∀ p : Nat, p < 576 → Q p = 1 → ts p < c) : ∀ (n s : Nat), s < 576 → Q s = 1 → c - ts s ≤ n → hd (mi s % 21).toNat ≠ -1 := by
  intro n
  induction n with
  | zero =>
    intro s hs hq hn
    have := hc s hs hq
    omega
  | succ n ih =>
    intro s hs hq hn
    obtain ⟨⟨a1, a2, a3, a4, a5⟩, a6, a7, a8⟩ := L.1 s hs hq
    by_cases e : be s = -1
    · have := a6 e
      omega
    · obtain ⟨p3, p4, p5, p6⟩ := a7 (be s).toNat (by omega)
      rw [← p4]
      exact ih (be s).toNat (by omega) p3 (by omega)
theorem Lk_add {Q ts mi af be hd : Nat → Int} (L : Lk Q ts mi af be hd) {s : Nat} (hs : s < 576) (hq : Q s = 0) {tot : Int} (ht : 0 ≤ tot) {c : Int} (hc : ∀ p : Nat, p < 576 → Q p = 1 → ts p < c) :
    Lk (upI Q s 1) (upI ts s c) (upI mi s tot) (upI af s (hd (tot % 21).toNat)) (if 0 ≤ hd (tot % 21).toNat then upI (upI be s (-1)) (hd (tot % 21).toNat).toNat s else upI be s (-1)) (upI hd (tot % 21).toNat s) := by
  have hk : (tot % 21).toNat < 21 := by omega
  obtain ⟨hR, hX⟩ := L.2 (tot % 21).toNat hk
  obtain ⟨L1, L2⟩ := L
  obtain ⟨x, hx⟩ : ∃ x, x = hd (tot % 21).toNat := ⟨_, rfl⟩
  rw [← hx] at hX hR ⊢
  have hns : ∀ p : Nat, Q p = 1 → p ≠ s := fun p h e => by rw [e, hq] at h; omega
  have hX' : ∀ p : Nat, (p : Int) = x → Q p = 1 ∧ mi p % 21 = tot % 21 ∧ be p = -1 := by
    intro p hp
    obtain ⟨y3, y4, y5⟩ := hX p hp.symm
    exact ⟨y3, by omega, y5⟩
  have hxs : x ≠ (s : Int) := fun z => hns s (hX' s z.symm).1 rfl
  obtain ⟨B, hB⟩ : ∃ B, B = (if 0 ≤ x then upI (upI be s (-1)) x.toNat s else upI be s (-1)) := ⟨_, rfl⟩
  rw [← hB]
  have B1 : B s = -1 := by
    rw [hB]
    by_cases c : 0 ≤ x
    · rw [if_pos c, upI_n _ _ (by omega), upI_s]
    · rw [if_neg c, upI_s]
  have B2 : ∀ p : Nat, p ≠ s → (p : Int) ≠ x → B p = be p := by
    intro p h1 h2
    rw [hB]
    by_cases c : 0 ≤ x
    · rw [if_pos c, upI_n _ _ (by omega), upI_n _ _ h1]
    · rw [if_neg c, upI_n _ _ h1]
  have B3 : ∀ y : Nat, (y : Int) = x → B y = s := by
    intro y hy
    rw [hB, if_pos (by omega), show x.toNat = y by omega, upI_s]
  have Q2 : ∀ p : Nat, Q p = 1 → upI Q s 1 p = 1 := fun p h2 => by rw [upI_n _ _ (hns p h2)]; exact h2
  refine ⟨fun p hp hqp => ?_, fun k hk2 => ?_⟩
  · by_cases e : p = s
    · rw [e, upI_s mi s tot, upI_s af s x, B1]
      refine ⟨⟨ht, by omega, by omega, hR.1, hR.2⟩, fun _ => upI_s _ _ _, fun p hp => by omega, fun r hr => ?_⟩
      obtain ⟨y3, y4, y5⟩ := hX' r hr.symm
      exact ⟨Q2 r y3, by rw [upI_n _ _ (hns r y3)]; exact y4, B3 r hr.symm⟩
    · rw [upI_n _ _ e] at hqp
      obtain ⟨⟨a1, a2, a3, a4, a5⟩, a6, a7, a8⟩ := L1 p hp hqp
      rw [upI_n mi tot e, upI_n af x e]
      by_cases ex : (p : Int) = x
      · obtain ⟨y3, y4, y5⟩ := hX' p ex
        rw [B3 p ex]
        refine ⟨⟨a1, by omega, by omega, a4, a5⟩, fun z => by omega, fun r hr => ?_, fun r hr => ?_⟩
        · rw [show r = s by omega]
          refine ⟨upI_s _ _ _, by rw [upI_s]; exact y4.symm, by rw [upI_s]; exact ex.symm, ?_⟩
          rw [upI_s, upI_n _ _ e]
          exact hc p hp hqp
        · obtain ⟨r3, r4, r5⟩ := a8 r hr
          have hrx : (r : Int) ≠ x := fun z => by have := (hX' r z).2.2; omega
          exact ⟨Q2 r r3, by rw [upI_n _ _ (hns r r3)]; exact r4, by rw [B2 r (hns r r3) hrx]; exact r5⟩
      · rw [B2 p e ex]
        refine ⟨⟨a1, a2, a3, a4, a5⟩, fun z => ?_, fun r hr => ?_, fun r hr => ?_⟩
        · have b2 := a6 z
          rw [upI_n _ _ (fun z => ex (by rw [← b2, z, hx]))]
          exact b2
        · obtain ⟨r3, r4, r5, r6⟩ := a7 r hr
          have hr := hns r r3
          refine ⟨Q2 r r3, ?_, ?_, ?_⟩
          · rw [upI_n _ _ hr]; exact r4
          · rw [upI_n _ _ hr]; exact r5
          · rw [upI_n _ _ hr, upI_n _ _ e]; exact r6
        · obtain ⟨r3, r4, r5⟩ := a8 r hr
          have hrx : (r : Int) ≠ x := fun z => by have := (hX' r z).2.2; omega
          exact ⟨Q2 r r3, by rw [upI_n _ _ (hns r r3)]; exact r4, by rw [B2 r (hns r r3) hrx]; exact r5⟩
  · by_cases e : k = (tot % 21).toNat
    · rw [e, upI_s]
      refine ⟨⟨by omega, by omega⟩, fun r hr => ?_⟩
      rw [show r = s by omega]
      exact ⟨upI_s _ _ _, by rw [upI_s]; omega, B1⟩
    · rw [upI_n _ _ e]
      obtain ⟨b1, b2⟩ := L2 k hk2
      refine ⟨b1, fun r hr => ?_⟩
      obtain ⟨r3, r4, r5⟩ := b2 r hr
      have hrx : (r : Int) ≠ x := fun z => by have := (hX' r z).2.1; omega
      exact ⟨Q2 r r3, by rw [upI_n _ _ (hns r r3)]; exact r4, by rw [B2 r (hns r r3) hrx]; exact r5⟩
theorem Lk_rem {Q ts mi af be hd : Nat → Int} (L : Lk Q ts mi af be hd) {s : Nat} (hs : s < 576) (hq : Q s = 1) :
    Lk (upI Q s 0) ts mi (if 0 ≤ be s then upI af (be s).toNat (af s) else af) (if 0 ≤ af s then upI be (af s).toNat (be s) else be) (if 0 ≤ be s then hd else upI hd (mi s % 21).toNat (af s)) := by
  obtain ⟨L1, L2⟩ := L
  obtain ⟨⟨s1, s2, s3, s4, s5⟩, s6, s7, s8⟩ := L1 s hs hq
  obtain ⟨p, hp⟩ : ∃ p, p = be s := ⟨_, rfl⟩
  obtain ⟨q, hqq⟩ : ∃ q, q = af s := ⟨_, rfl⟩
  rw [← hp] at s2 s3 s6 s7
  rw [← hqq] at s4 s5 s8
  rw [← hp, ← hqq]
  obtain ⟨A, hA⟩ : ∃ A, A = (if 0 ≤ p then upI af p.toNat q else af) := ⟨_, rfl⟩
  obtain ⟨B, hB⟩ : ∃ B, B = (if 0 ≤ q then upI be q.toNat p else be) := ⟨_, rfl⟩
  obtain ⟨H, hH⟩ : ∃ H, H = (if 0 ≤ p then hd else upI hd (mi s % 21).toNat q) := ⟨_, rfl⟩
  rw [← hA, ← hB, ← hH]
  have A1 : ∀ y : Nat, p = y → A y = q := fun y hy => by rw [hA, if_pos (by omega), show p.toNat = y by omega, upI_s]
  have A2 : ∀ y : Nat, p ≠ y → A y = af y := by
    intro y hy
    rw [hA]
    by_cases c : 0 ≤ p
    · rw [if_pos c, upI_n _ _ (by omega)]
    · rw [if_neg c]
  have B1 : ∀ y : Nat, q = y → B y = p := fun y hy => by rw [hB, if_pos (by omega), show q.toNat = y by omega, upI_s]
  have B2 : ∀ y : Nat, q ≠ y → B y = be y := by
    intro y hy
    rw [hB]
    by_cases c : 0 ≤ q
    · rw [if_pos c, upI_n _ _ (by omega)]
    · rw [if_neg c]
  have H1 : p = -1 → H (mi s % 21).toNat = q := fun z => by rw [hH, if_neg (by omega), upI_s]
  have H2 : ∀ k : Nat, 0 ≤ p ∨ k ≠ (mi s % 21).toNat → H k = hd k := by
    intro k hk
    rw [hH]
    by_cases c : 0 ≤ p
    · rw [if_pos c]
    · rw [if_neg c, upI_n _ _ (by omega)]
  clear hA hB hH
  have hps : p ≠ (s : Int) := fun z => by have := (s7 s z).2.2.2; omega
  have hqs : q ≠ (s : Int) := fun z => by have := (s8 s z).2.2; omega
  have Q2 : ∀ r : Nat, r ≠ s → Q r = 1 → upI Q s 0 r = 1 := fun r h1 h2 => by rw [upI_n _ _ h1]; exact h2
  refine ⟨fun r hr hqr => ?_, fun k hk => ?_⟩
  · have e : r ≠ s := by
      intro e
      rw [e, upI_s] at hqr
      omega
    rw [upI_n _ _ e] at hqr
    obtain ⟨⟨a1, a2, a3, a4, a5⟩, a6, a7, a8⟩ := L1 r hr hqr
    have be_part : (-1 ≤ B r ∧ B r < 576) ∧ (B r = -1 → H (mi r % 21).toNat = r) ∧ (∀ t : Nat, B r = t → upI Q s 0 t = 1 ∧ mi t % 21 = mi r % 21 ∧ A t = r ∧ ts r < ts t) := by
      by_cases er : q = (r : Int)
      · rw [B1 r er]
        obtain ⟨y3, y4, y5⟩ := s8 r er
        refine ⟨⟨s2, s3⟩, fun z => ?_, fun t ht => ?_⟩
        · rw [y4, H1 z, er]
        · obtain ⟨t3, t4, t5, t6⟩ := s7 t ht
          obtain ⟨-, -, -, u6⟩ := a7 s y5
          exact ⟨Q2 t (by omega) t3, by omega, by rw [A1 t ht, er], by omega⟩
      · rw [B2 r er]
        refine ⟨⟨a2, a3⟩, fun z => ?_, fun t ht => ?_⟩
        · have b2 := a6 z
          rw [H2 _ ?_]
          · exact b2
          · by_cases cp : 0 ≤ p
            · exact Or.inl cp
            · refine Or.inr (fun ck => ?_)
              have := s6 (by omega)
              rw [ck, this] at b2
              omega
        · obtain ⟨t3, t4, t5, t6⟩ := a7 t ht
          have hts : t ≠ s := by
            intro z
            rw [z] at t5
            omega
          refine ⟨Q2 t hts t3, t4, ?_, t6⟩
          rw [A2 t (fun z => ?_)]
          · exact t5
          · have := (s7 t z).2.2.1
            omega
    have af_part : (-1 ≤ A r ∧ A r < 576) ∧ (∀ t : Nat, A r = t → upI Q s 0 t = 1 ∧ mi t % 21 = mi r % 21 ∧ B t = r) := by
      by_cases er : p = (r : Int)
      · rw [A1 r er]
        obtain ⟨z3, z4, z5, z6⟩ := s7 r er
        refine ⟨⟨s4, s5⟩, fun t ht => ?_⟩
        obtain ⟨t3, t4, t5⟩ := s8 t ht
        exact ⟨Q2 t (by omega) t3, by omega, by rw [B1 t ht, er]⟩
      · rw [A2 r er]
        refine ⟨⟨a4, a5⟩, fun t ht => ?_⟩
        obtain ⟨t3, t4, t5⟩ := a8 t ht
        have hts : t ≠ s := by
          intro z
          rw [z] at t5
          omega
        refine ⟨Q2 t hts t3, t4, ?_⟩
        rw [B2 t (fun z => ?_)]
        · exact t5
        · have := (s8 t z).2.2
          omega
    exact ⟨⟨a1, be_part.1.1, be_part.1.2, af_part.1.1, af_part.1.2⟩, be_part.2.1, be_part.2.2, af_part.2⟩
  · by_cases ck : 0 ≤ p ∨ k ≠ (mi s % 21).toNat
    · rw [H2 k ck]
      obtain ⟨b1, b2⟩ := L2 k hk
      refine ⟨b1, fun t ht => ?_⟩
      obtain ⟨t3, t4, t5⟩ := b2 t ht
      have hts : t ≠ s := by
        intro z
        rw [z] at t4 t5
        omega
      refine ⟨Q2 t hts t3, t4, ?_⟩
      rw [B2 t (fun z => ?_)]
      · exact t5
      · obtain ⟨y3, y4, y5⟩ := s8 t z
        omega
    · have e1 : p = -1 := by omega
      have ek : k = (mi s % 21).toNat := by omega
      rw [ek, H1 e1]
      refine ⟨⟨s4, s5⟩, fun t ht => ?_⟩
      obtain ⟨y3, y4, y5⟩ := s8 t ht
      exact ⟨Q2 t (by omega) y3, by omega, by rw [B1 t ht, e1]⟩
