/-! ===== what the search is asked ===== -/
def Pd (c1 turn c ph : Int) (s : Nat) : Prop := c1 ≤ (s : Int) / 24 ∧ (s : Int) / 3 % 8 = turn ∧ ((s : Int) / 24 < c ∨ ((s : Int) / 24 = c ∧ (s : Int) % 3 < ph))
def Sk (c1 turn : Int) (mi fi : Nat → Int) (c ph f : Int) (code : Int32) : Prop :=
  0 ≤ f ∧ f ≤ 1000000 ∧ (∀ s : Nat, s < 576 → Pd c1 turn c ph s → f ≤ mi s) ∧
  (f = 1000000 ∨ ∃ q : Int, -1000000 ≤ q ∧ q ≤ 37 ∧ code = zI q ∧ (∃ s : Nat, s < 576 ∧ Pd c1 turn c ph s ∧ mi s = f ∧ fi s = q) ∧ ∀ s : Nat, s < 576 → Pd c1 turn c ph s → mi s = f → q ≤ fi s)
/-- what the search's arrays hold -/
def Rg (mi fi : Nat → Int) : Prop := (∀ s : Nat, s < 576 → 0 ≤ mi s ∧ mi s ≤ 1000000) ∧ ∀ s : Nat, s < 576 → mi s < 1000000 → -1000000 ≤ fi s ∧ fi s ≤ 37
section
variable {c1 turn : Int} {mi fi : Nat → Int}
theorem Sk_skip {c ph f : Int} {code : Int32} {c' ph' : Int} {s0 : Nat} (hP : ∀ s : Nat, s < 576 → (Pd c1 turn c' ph' s ↔ Pd c1 turn c ph s ∨ s = s0)) (K : Sk c1 turn mi fi c ph f code) (h : f < mi s0) : Sk c1 turn mi fi c' ph' f code := by
  obtain ⟨k1, k2, k3, k4⟩ := K
  refine ⟨k1, k2, fun s hs hp => ?_, ?_⟩
  · rcases (hP s hs).mp hp with e | e
    · exact k3 s hs e
    · rw [e]; omega
  · rcases k4 with e | ⟨q, q1, q2, q3, ⟨s, s1, s2, s3, s4⟩, q5⟩
    · exact Or.inl e
    · refine Or.inr ⟨q, q1, q2, q3, ⟨s, s1, (hP s s1).mpr (Or.inl s2), s3, s4⟩, fun s hs hp he => ?_⟩
      rcases (hP s hs).mp hp with e | e
      · exact q5 s hs e he
      · rw [e] at he; omega
theorem Sk_less {c ph f : Int} {code : Int32} {c' ph' : Int} {s0 : Nat} (hs0 : s0 < 576) (G : Rg mi fi) (hP : ∀ s : Nat, s < 576 → (Pd c1 turn c' ph' s ↔ Pd c1 turn c ph s ∨ s = s0)) (K : Sk c1 turn mi fi c ph f code) (h : mi s0 < f) : Sk c1 turn mi fi c' ph' (mi s0) (zI (fi s0)) := by
  obtain ⟨k1, k2, k3, k4⟩ := K
  have g := G.1 s0 hs0
  have g2 := G.2 s0 hs0 (by omega)
  refine ⟨g.1, g.2, fun s hs hp => ?_, Or.inr ⟨fi s0, g2.1, g2.2, rfl, ⟨s0, hs0, (hP s0 hs0).mpr (Or.inr rfl), rfl, rfl⟩, fun s hs hp he => ?_⟩⟩
  · rcases (hP s hs).mp hp with e | e
    · have := k3 s hs e; omega
    · rw [e]; omega
  · rcases (hP s hs).mp hp with e | e
    · have := k3 s hs e; omega
    · rw [e]; omega
theorem Sk_same {c ph f : Int} {code : Int32} {c' ph' : Int} {s0 : Nat} (hs0 : s0 < 576) (G : Rg mi fi) (hP : ∀ s : Nat, s < 576 → (Pd c1 turn c' ph' s ↔ Pd c1 turn c ph s ∨ s = s0)) (K : Sk c1 turn mi fi c ph f code) (h : mi s0 = f) : Sk c1 turn mi fi c' ph' (mi s0) (mj_min code (zI (fi s0))) := by
  obtain ⟨k1, k2, k3, k4⟩ := K
  have g := G.1 s0 hs0
  refine ⟨g.1, g.2, fun s hs hp => ?_, ?_⟩
  · rcases (hP s hs).mp hp with e | e
    · have := k3 s hs e; omega
    · rw [e]; omega
  · rcases k4 with e | ⟨q, q1, q2, q3, ⟨s, s1, s2, s3, s4⟩, q5⟩
    · exact Or.inl (by omega)
    · by_cases c : mi s0 = 1000000
      · exact Or.inl c
      · have g2 := G.2 s0 hs0 (by omega)
        refine Or.inr ⟨min q (fi s0), by omega, by omega, by rw [q3, zI_min (by omega) (by omega) (by omega) (by omega)], ?_, fun s hs hp he => ?_⟩
        · by_cases cq : q ≤ fi s0
          · exact ⟨s, s1, (hP s s1).mpr (Or.inl s2), by omega, by omega⟩
          · exact ⟨s0, hs0, (hP s0 hs0).mpr (Or.inr rfl), rfl, by omega⟩
        · rcases (hP s hs).mp hp with e | e
          · have := q5 s hs e (by omega); omega
          · rw [e]; omega
theorem Sk_cell {c f : Int} {code : Int32} (K : Sk c1 turn mi fi c 3 f code) : Sk c1 turn mi fi (c + 1) 0 f code := by
  have hP : ∀ s : Nat, Pd c1 turn (c + 1) 0 s ↔ Pd c1 turn c 3 s := by
    intro s
    unfold Pd
    omega
  obtain ⟨k1, k2, k3, k4⟩ := K
  refine ⟨k1, k2, fun s hs hp => k3 s hs ((hP s).mp hp), ?_⟩
  rcases k4 with e | ⟨q, q1, q2, q3, ⟨s, s1, s2, s3, s4⟩, q5⟩
  · exact Or.inl e
  · exact Or.inr ⟨q, q1, q2, q3, ⟨s, s1, (hP s).mpr s2, s3, s4⟩, fun s hs hp he => q5 s hs ((hP s).mp hp) he⟩
section
variable {h : MH} {R : Nat → Nat → Int}
theorem s_seek20 {F : Nat} (S : Sr h R) (G : Rg (R 2) (R 3)) (ht : 0 ≤ turn ∧ turn < 8) (k11 : (Option Nat) → Int32 → Int32 → Int32 → Int32 → Int32 → MH → (Option MH)) {c2 c : Int} (hc : 0 ≤ c ∧ c < 24) (hc1 : c1 ≤ c) : ∀ (d ph fu : Nat) (f : Int) (code : Int32), ph + d = 3 → d < fu → Sk c1 turn (R 2) (R 3) c ph f code →
    ∃ f' code', Sk c1 turn (R 2) (R 3) (c + 1) 0 f' code' ∧ b_S_seek_20 F k11 fu (some 17) (zI c2) (zI turn) (zI f) code (zI c) (zI ph) h = k11 (some 17) (zI c2) (zI turn) (zI f') code' (zI (c + 1)) h := by
  intro d
  induction d with
  | zero =>
    intro ph fu f code hp hf K
    obtain ⟨fu, rfl⟩ : ∃ q, fu = q + 1 := ⟨fu - 1, by omega⟩
    refine ⟨f, code, Sk_cell (by rw [show ((3 : Int)) = (ph : Int) by omega]; exact K), ?_⟩
    unfold b_S_seek_20
    simp (disch := omega) only [l3, l1, zI_le, zI_add]
    rw [if_pos (by omega)]
  | succ d ih =>
    intro ph fu f code hp hf K
    obtain ⟨fu, rfl⟩ : ∃ q, fu = q + 1 := ⟨fu - 1, by omega⟩
    obtain ⟨s0, hs0⟩ : ∃ s0 : Nat, 24 * c + 3 * turn + ph = s0 := ⟨(24 * c + 3 * turn + ph).toNat, by omega⟩
    have hs5 : s0 < 576 := by omega
    have hP : ∀ s : Nat, s < 576 → (Pd c1 turn c ((ph + 1 : Nat) : Int) s ↔ Pd c1 turn c ph s ∨ s = s0) := by
      intro s hs
      unfold Pd
      omega
    have g := G.1 s0 hs5
    have at2 : f_C_at (some 19) (zI s0) h = some (zI (R 2 s0)) := by
      have := sr_at S 2 (c := 19) (k := (s0 : Int)) rfl (by omega) (by omega) (by omega) (show (s0 : Int) < (576 : Nat) by omega)
      rwa [Int.toNat_natCast] at this
    have at3 : f_C_at (some 20) (zI s0) h = some (zI (R 3 s0)) := by
      have := sr_at S 3 (c := 20) (k := (s0 : Int)) rfl (by omega) (by omega) (by omega) (show (s0 : Int) < (576 : Nat) by omega)
      rwa [Int.toNat_natCast] at this
    have x3 : (3 : Int32) ≤ zI (ph : Int) ↔ 3 ≤ (ph : Int) := zI_le (a := 3) (by omega) (by omega) (by omega) (by omega)
    have xw : f_C_within (zI s0) (576 : Int32) = 0 ↔ ¬ (0 ≤ (s0 : Int) ∧ (s0 : Int) < 576) := s_within0 (b := 576) (by omega) (by omega) (by omega) (by omega)
    have xl : zI (R 2 s0) ≤ zI f ↔ R 2 s0 ≤ f := zI_le (by omega) (by omega) (by have := K.1; omega) (by have := K.2.1; omega)
    have xe : zI (R 2 s0) = zI f ↔ R 2 s0 = f := zI_eq (by omega) (by omega) (by have := K.1; omega) (by have := K.2.1; omega)
    have e129 : ∀ (f' : Int) (code' : Int32), b_S_seek_129 F k11 (b_S_seek_20 F k11 fu) (some 17) (zI c2) (zI turn) (zI f') code' (zI c) (zI ph) h = b_S_seek_20 F k11 fu (some 17) (zI c2) (zI turn) (zI f') code' (zI c) (zI ((ph + 1 : Nat) : Int)) h := by
      intro f' code'
      unfold b_S_seek_129
      rw [l1, zI_add]
      rfl
    have hu : b_S_seek_20 F k11 (fu + 1) (some 17) (zI c2) (zI turn) (zI f) code (zI c) (zI ph) h = if R 2 s0 ≤ f then (if R 2 s0 = f then b_S_seek_20 F k11 fu (some 17) (zI c2) (zI turn) (zI (R 2 s0)) (mj_min code (zI (R 3 s0))) (zI c) (zI ((ph + 1 : Nat) : Int)) h else b_S_seek_20 F k11 fu (some 17) (zI c2) (zI turn) (zI (R 2 s0)) (zI (R 3 s0)) (zI c) (zI ((ph + 1 : Nat) : Int)) h) else b_S_seek_20 F k11 fu (some 17) (zI c2) (zI turn) (zI f) code (zI c) (zI ((ph + 1 : Nat) : Int)) h := by
      conv => lhs; unfold b_S_seek_20 b_S_seek_83 b_S_seek_116
      simp only [x3, s_stateOf, hs0, xw, sg1 S, sg2 S, at2, at3, bd, xl, xe, e129]
      rw [if_neg (show ¬ 3 ≤ (ph : Int) by omega), if_neg (show ¬ ¬ (0 ≤ (s0 : Int) ∧ (s0 : Int) < 576) by omega), if_neg (show ¬ (1 : Int32) = 0 by decide), if_pos trivial]
    rw [hu]
    by_cases c3 : R 2 s0 ≤ f
    · rw [if_pos c3]
      by_cases c4 : R 2 s0 = f
      · rw [if_pos c4]
        exact ih (ph + 1) fu _ _ (by omega) (by omega) (Sk_same hs5 G hP K c4)
      · rw [if_neg c4]
        exact ih (ph + 1) fu _ _ (by omega) (by omega) (Sk_less hs5 G hP K (by omega))
    · rw [if_neg c3]
      exact ih (ph + 1) fu _ _ (by omega) (by omega) (Sk_skip hP K (by omega))
theorem s_seek11 {F : Nat} (hF : 1000 ≤ F) (S : Sr h R) (G : Rg (R 2) (R 3)) (ht : 0 ≤ turn ∧ turn < 8) {c2 : Int} (hc2 : c2 < 24) (h0 : 0 ≤ c1) : ∀ (d fu : Nat) (c f : Int) (code : Int32), c + d = c2 + 1 → c1 ≤ c → d < fu → Sk c1 turn (R 2) (R 3) c 0 f code →
    ∃ (f' : Int) (code' : Int32) (h' : MH), Sk c1 turn (R 2) (R 3) (c2 + 1) 0 f' code' ∧ b_S_seek_11 F fu (some 17) (zI c2) (zI turn) (zI f) code (zI c) h = some h' ∧ Sm h h' ∧ ∃ q : Int, (f' = 1000000 → q = -1000000) ∧ (f' < 1000000 → code' = zI q → True) ∧ (f' ≠ 1000000 → zI q = code') ∧ Sr h' (upR (upR R 0 (upI (R 0) 4 (if f' = 1000000 then -1000000 else f'))) 0 (upI (upI (R 0) 4 (if f' = 1000000 then -1000000 else f')) 5 q)) := by
  intro d
  induction d with
  | zero =>
    intro fu c f code hc hcc hf K
    obtain ⟨fu, rfl⟩ : ∃ q, fu = q + 1 := ⟨fu - 1, by omega⟩
    have hcl : -2147483648 ≤ c ∧ c < 2147483648 ∧ -2147483648 ≤ c2 := by omega
    have xc : zI c2 < zI c ↔ c2 < c := zI_lt (by omega) (by omega) (by omega) (by omega)
    have xe : zI f = (1000000 : Int32) ↔ f = 1000000 := zI_eq (b := 1000000) (by have := K.1; omega) (by have := K.2.1; omega) (by omega) (by omega)
    have fin : ∀ q : Int, (f = 1000000 → q = -1000000) → (f ≠ 1000000 → zI q = code) → ∃ h', b_S_seek_156 F (some 17) (zI f) code (some 17) (zI (if f = 1000000 then -1000000 else f)) h = some h' ∧ Sm h h' ∧ Sr h' (upR (upR R 0 (upI (R 0) 4 (if f = 1000000 then -1000000 else f))) 0 (upI (upI (R 0) 4 (if f = 1000000 then -1000000 else f)) 5 q)) := by
      intro q hq1 hq2
      unfold b_S_seek_156 b_S_seek_174
      obtain ⟨h1, e1, m1, S1⟩ := sr_pf S 4 (c := 12) rfl (by omega) (if f = 1000000 then -1000000 else f)
      obtain ⟨h2, e2, m2, S2⟩ := sr_pf S1 5 (c := 13) rfl (by omega) q
      rw [e1, bd]
      simp only [xe]
      by_cases c1 : f = 1000000
      · have e3 : pfv h1 (some 17) [6] 13 (.int (zI (-1000000))) = some h2 := by rw [← hq1 c1]; exact e2
        rw [if_pos c1, lN0, e3]
        exact ⟨h2, rfl, m1.tr m2, S2⟩
      · rw [if_neg c1, ← hq2 c1, e2]
        exact ⟨h2, rfl, m1.tr m2, S2⟩
    have hu : b_S_seek_11 F (fu + 1) (some 17) (zI c2) (zI turn) (zI f) code (zI c) h = b_S_seek_156 F (some 17) (zI f) code (some 17) (zI (if f = 1000000 then -1000000 else f)) h := by
      conv => lhs; unfold b_S_seek_11
      simp only [xc, xe]
      rw [if_pos (by omega)]
      by_cases c1 : f = 1000000
      · rw [if_pos c1, if_pos c1]; rfl
      · rw [if_neg c1, if_neg c1]
    obtain ⟨q, hq1, hq2⟩ : ∃ q : Int, (f = 1000000 → q = -1000000) ∧ (f ≠ 1000000 → zI q = code) := by
      by_cases c1 : f = 1000000
      · exact ⟨-1000000, fun _ => rfl, fun z => absurd c1 z⟩
      · rcases K.2.2.2 with e | ⟨q, q1, q2, q3, q4⟩
        · exact absurd e c1
        · exact ⟨q, fun z => absurd z c1, fun _ => q3.symm⟩
    obtain ⟨h', e1, e2, e3⟩ := fin q hq1 hq2
    exact ⟨f, code, h', by rw [show c2 + 1 = c by omega]; exact K, by rw [hu, e1], e2, q, hq1, fun _ _ => trivial, hq2, e3⟩
  | succ d ih =>
    intro fu c f code hc hcc hf K
    obtain ⟨fu, rfl⟩ : ∃ q, fu = q + 1 := ⟨fu - 1, by omega⟩
    have xc : zI c2 < zI c ↔ c2 < c := zI_lt (by omega) (by omega) (by omega) (by omega)
    obtain ⟨f1, code1, K1, e1⟩ := s_seek20 (F := F) S G ht (b_S_seek_11 F fu) (c2 := c2) (c := c) (by omega) hcc 3 0 F f code rfl (by omega) K
    obtain ⟨f2, code2, h2, K2, e2, r⟩ := ih fu (c + 1) f1 code1 (by omega) (by omega) (by omega) K1
    refine ⟨f2, code2, h2, K2, ?_, r⟩
    conv => lhs; unfold b_S_seek_11
    simp only [xc]
    rw [if_neg (by omega), ← e2, ← e1]
    rfl
theorem s_seek {F : Nat} (hF : 1000 ≤ F) (S : Sr h R) (G : Rg (R 2) (R 3)) (ht : 0 ≤ turn ∧ turn < 8) {c2 : Int} (hc2 : c2 < 24) (h0 : 0 ≤ c1) (h12 : c1 ≤ c2 + 1) :
    ∃ (f q : Int) (h' : MH) (R' : Nat → Nat → Int), f_S_seek F (some 17) (zI c1) (zI c2) (zI turn) h = some h' ∧ Sm h h' ∧ Sr h' R' ∧ R' 0 4 = (if f = 1000000 then -1000000 else f) ∧ (R' 0 5 = (if f = 1000000 then -1000000 else q)) ∧ 0 ≤ f ∧ f ≤ 1000000 ∧
      (∀ s : Nat, s < 576 → (c1 ≤ (s : Int) / 24 ∧ (s : Int) / 24 ≤ c2 ∧ (s : Int) / 3 % 8 = turn) → f ≤ R 2 s) ∧
      (f = 1000000 ∨ ∃ s : Nat, s < 576 ∧ (c1 ≤ (s : Int) / 24 ∧ (s : Int) / 24 ≤ c2 ∧ (s : Int) / 3 % 8 = turn) ∧ R 2 s = f ∧ R 3 s = q) ∧
      ∀ s : Nat, s < 576 → (c1 ≤ (s : Int) / 24 ∧ (s : Int) / 24 ≤ c2 ∧ (s : Int) / 3 % 8 = turn) → R 2 s = f → f < 1000000 → q ≤ R 3 s := by
  have K0 : Sk c1 turn (R 2) (R 3) c1 0 1000000 (-1000000) := by
    refine ⟨by omega, by omega, fun s hs hp => ?_, Or.inl rfl⟩
    unfold Pd at hp
    omega
  obtain ⟨f, code, h', K, e, m, q, q1, -, q2, S'⟩ := s_seek11 (F := F) hF S G ht hc2 h0 (c2 + 1 - c1).toNat F c1 1000000 (-1000000) (by omega) (by omega) (by omega) K0
  have hP : ∀ s : Nat, Pd c1 turn (c2 + 1) 0 s ↔ (c1 ≤ (s : Int) / 24 ∧ (s : Int) / 24 ≤ c2 ∧ (s : Int) / 3 % 8 = turn) := by
    intro s
    unfold Pd
    omega
  obtain ⟨k1, k2, k3, k4⟩ := K
  have e' : f_S_seek F (some 17) (zI c1) (zI c2) (zI turn) h = some h' := e
  have h5 : ∀ q' : Int, q = (if f = 1000000 then -1000000 else q') → (upR (upR R 0 (upI (R 0) 4 (if f = 1000000 then -1000000 else f))) 0 (upI (upI (R 0) 4 (if f = 1000000 then -1000000 else f)) 5 q)) 0 5 = (if f = 1000000 then -1000000 else q') := by
    intro q' hq
    show upI (upI (R 0) 4 (if f = 1000000 then -1000000 else f)) 5 q 5 = _
    rw [upI_s]
    exact hq
  have h4 : (upR (upR R 0 (upI (R 0) 4 (if f = 1000000 then -1000000 else f))) 0 (upI (upI (R 0) 4 (if f = 1000000 then -1000000 else f)) 5 q)) 0 4 = (if f = 1000000 then -1000000 else f) := by
    show upI (upI (R 0) 4 (if f = 1000000 then -1000000 else f)) 5 q 4 = _
    rw [upI_n _ _ (by decide), upI_s]
  rcases k4 with e0 | ⟨q', z1, z2, z3, ⟨s, s1, s2, s3, s4⟩, z5⟩
  · exact ⟨f, q, h', _, e', m, S', h4, h5 q (by rw [if_pos e0]; exact q1 e0), k1, k2, fun s hs hp => k3 s hs ((hP s).mpr hp), Or.inl e0, fun s hs hp he hf => by omega⟩
  · by_cases c0 : f = 1000000
    · exact ⟨f, q, h', _, e', m, S', h4, h5 q (by rw [if_pos c0]; exact q1 c0), k1, k2, fun s hs hp => k3 s hs ((hP s).mpr hp), Or.inl c0, fun s hs hp he hf => by omega⟩
    · refine ⟨f, q', h', upR (upR (upR R 0 (upI (R 0) 4 (if f = 1000000 then -1000000 else f))) 0 (upI (upI (R 0) 4 (if f = 1000000 then -1000000 else f)) 5 q)) 0 (upI (upI (R 0) 4 (if f = 1000000 then -1000000 else f)) 5 q'), e', m, ?_, ?_, ?_, k1, k2, fun s hs hp => k3 s hs ((hP s).mpr hp), Or.inr ⟨s, s1, (hP s).mp s2, s3, s4⟩, fun s hs hp he hf => z5 s hs ((hP s).mpr hp) he⟩
      · refine ⟨?_, fun a a1 a2 => ?_⟩
        · have h17 := S'.1
          have : zI q = zI q' := by rw [q2 c0, z3]
          rw [h17]
          show oB 6 [.ref 18, .ref 19, .ref 20, .ref 21, .ref 22, .ref 23, .ref 24, .ref 25, .int (zI (R 0 0)), .int (zI (R 0 1)), .int (zI (R 0 2)), .int (zI (R 0 3)), .int (zI (if f = 1000000 then -1000000 else f)), .int (zI q)] = oB 6 [.ref 18, .ref 19, .ref 20, .ref 21, .ref 22, .ref 23, .ref 24, .ref 25, .int (zI (R 0 0)), .int (zI (R 0 1)), .int (zI (R 0 2)), .int (zI (R 0 3)), .int (zI (if f = 1000000 then -1000000 else f)), .int (zI q')]
          rw [this]
        · rw [S'.2 a a1 a2]
          unfold upR
          rw [if_neg (by omega), if_neg (by omega), if_neg (by omega)]
      · show upI (upI (R 0) 4 (if f = 1000000 then -1000000 else f)) 5 q' 4 = _
        rw [upI_n _ _ (by decide), upI_s]
      · show upI (upI (R 0) 4 (if f = 1000000 then -1000000 else f)) 5 q' 5 = _
        rw [upI_s, if_neg c0]
end
end
