/-! ===== the fewest MINUTES, once and for all ===== -/
theorem b_uni {v : Nat → Int} (W : Wv v) {less : Int} {T : Int → Prop} {b b' : Nat → Int} (J : Jb v less T b) (C : ClA v less b) (J' : Jb v less T b') (C' : ClA v less b') : ∀ k : Nat, k < 576 → b k = b' k := by
  have one : ∀ {b b' : Nat → Int}, Jb v less T b → Jb v less T b' → ClA v less b' → ∀ k : Nat, k < 576 → b' k ≤ b k := by
    intro b b' J J' C' k hk
    by_cases c : b k < 100000000
    · obtain ⟨n, hn⟩ := J.2.2 k hk c
      have := Wt_lb W J' C' n (by omega) (by omega) hn
      rwa [Int.toNat_natCast] at this
    · have := J'.1 k hk
      omega
  intro k hk
  have h1 := one J J' C' k hk
  have h2 := one J' J C k hk
  omega
theorem ex_b {v : Nat → Int} (W : Wv v) {less cell turn : Int} (hl1 : 0 ≤ less) (hl2 : less ≤ 100) (hc : cell = -1000000 ∨ (0 ≤ cell ∧ cell < 24)) (ht : 0 ≤ turn ∧ turn < 8) : ∃ b, Jb v less (Tg cell turn) b ∧ ClA v less b := by
  obtain ⟨b, h1, h2, -⟩ := s_M_solves (F := 1000000000000) (K := fun _ => 0) (a := 40) W (Nat.le_refl _) hl1 hl2 (by decide) (by decide) (by decide) hc ht (h := (fun i => if i = 34 then mO (fun _ => 0) else if i = 40 then aZ 42 v else aZ 576 (fun _ => 0), 48, 0)) (b := fun _ => 0) rfl rfl rfl
  exact ⟨b, h1, h2⟩
noncomputable def bS (v : Nat → Int) (less cell turn : Int) : Nat → Int := Classical.epsilon (fun b => Jb v less (Tg cell turn) b ∧ ClA v less b)
theorem bS_spec {v : Nat → Int} (W : Wv v) {less cell turn : Int} (hl1 : 0 ≤ less) (hl2 : less ≤ 100) (hc : cell = -1000000 ∨ (0 ≤ cell ∧ cell < 24)) (ht : 0 ≤ turn ∧ turn < 8) : Jb v less (Tg cell turn) (bS v less cell turn) ∧ ClA v less (bS v less cell turn) := Classical.epsilon_spec (ex_b W hl1 hl2 hc ht)
noncomputable def mV (v : Nat → Int) (less cell turn : Int) : Int := if bS v less cell turn (ndV v).toNat = 100000000 then -1000000 else bS v less cell turn (ndV v).toNat
noncomputable def mT (v : Nat → Int) (less : Int) : Int := mV v less (-1000000) ((v 15 + 4) % 8)
noncomputable def fO (v : Nat → Int) (cell turn : Int) : Int := Classical.epsilon (fun x => Fo v (bS v 0 cell turn) 0 x)
theorem Fo_uni {v : Nat → Int} {b : Nat → Int} {x y : Int} (h1 : Fo v b 0 x) (h2 : Fo v b 0 y) : x = y := by
  rcases h1 with ⟨a1, a2⟩ | ⟨i, m, a1, a2, a3, a4, a5, a6⟩
  · rcases h2 with ⟨b1, b2⟩ | ⟨j, q, b1, b2, b3, b4, b5, b6⟩
    · rw [a1, b1]
    · exact absurd b4 (a2 j q b1 b2 b3)
  · rcases h2 with ⟨b1, b2⟩ | ⟨j, q, b1, b2, b3, b4, b5, b6⟩
    · exact absurd a4 (b2 i m a1 a2 a3)
    · have := a6 j q b1 b2 b3 b4
      have := b6 i m a1 a2 a3 a4
      omega
theorem Pf_cg {v : Nat → Int} (W : Wv v) {b b' : Nat → Int} (h : ∀ k : Nat, k < 576 → b k = b' k) {i m : Nat} (z : Pf v b i m) : Pf v b' i m := by
  obtain ⟨k', z1, z2, z3⟩ := z
  have hn := ndV_r W
  have hr := eV_r W hn.1 hn.2 z1
  rw [h _ (by omega)] at z2
  rw [h _ (by omega), h _ (by omega)] at z3
  exact ⟨k', z1, z2, z3⟩
theorem Fo_cg {v : Nat → Int} (W : Wv v) {b b' : Nat → Int} (h : ∀ k : Nat, k < 576 → b k = b' k) {x : Int} (z : Fo v b 0 x) : Fo v b' 0 x := by
  have h' : ∀ k : Nat, k < 576 → b' k = b k := fun k hk => (h k hk).symm
  rcases z with ⟨a1, a2⟩ | ⟨i, m, a1, a2, a3, a4, a5, a6⟩
  · exact Or.inl ⟨a1, fun j q c1 c2 c3 c4 => a2 j q c1 c2 c3 (Pf_cg W h' c4)⟩
  · exact Or.inr ⟨i, m, a1, a2, a3, Pf_cg W h a4, a5, fun j q c1 c2 c3 c4 => a6 j q c1 c2 c3 (Pf_cg W h' c4)⟩
theorem fO_eq {v : Nat → Int} {cell turn x : Int} (h : Fo v (bS v 0 cell turn) 0 x) : fO v cell turn = x := Fo_uni (Classical.epsilon_spec (p := fun x => Fo v (bS v 0 cell turn) 0 x) ⟨x, h⟩) h
section
variable {v : Nat → Int} {less cell turn : Int}
theorem mV_r (W : Wv v) (hl1 : 0 ≤ less) (hl2 : less ≤ 100) (hc : cell = -1000000 ∨ (0 ≤ cell ∧ cell < 24)) (ht : 0 ≤ turn ∧ turn < 8) : mV v less cell turn = -1000000 ∨ (0 ≤ mV v less cell turn ∧ mV v less cell turn < 100000000) := by
  have hn := ndV_r W
  have := (bS_spec W hl1 hl2 hc ht).1.1 (ndV v).toNat (by omega)
  unfold mV
  by_cases c : bS v less cell turn (ndV v).toNat = 100000000
  · rw [if_pos c]; exact Or.inl rfl
  · rw [if_neg c]; exact Or.inr (by omega)
theorem mT_r (W : Wv v) (hl1 : 0 ≤ less) (hl2 : less ≤ 100) : mT v less = -1000000 ∨ (0 ≤ mT v less ∧ mT v less < 100000000) := mV_r W hl1 hl2 (Or.inl rfl) (by omega)
/-- the reference's words for them -/
theorem r_solves {F : Nat} {K : Nat → Int} {a : Nat} (W : Wv v) (hF : 1000000000000 ≤ F) (hl1 : 0 ≤ less) (hl2 : less ≤ 100) (ha : 3 ≤ a) (ha6 : a ≠ 46) (ha4 : a ≠ 34) (hc : cell = -1000000 ∨ (0 ≤ cell ∧ cell < 24)) (ht : 0 ≤ turn ∧ turn < 8) {h : MH} {b : Nat → Int} (M : h.1 34 = mO K) (A : h.1 a = aZ 42 v) (B : h.1 46 = aZ 576 b) :
    ∃ (b' : Nat → Int), (∀ k : Nat, k < 576 → b' k = bS v less cell turn k) ∧ f_M_solves F (some 34) (some a) (zI cell) (zI turn) (zI less) h = some (zI (mV v less cell turn), mj_up h 46 (aZ 576 b')) := by
  have hn := ndV_r W
  obtain ⟨b', h1, h2, h3⟩ := s_M_solves (F := F) (K := K) (a := a) W hF hl1 hl2 ha ha6 ha4 hc ht M A B
  obtain ⟨g1, g2⟩ := bS_spec W hl1 hl2 hc ht
  have hu := b_uni W h1 h2 g1 g2
  refine ⟨b', hu, ?_⟩
  rw [h3, hu _ (by omega)]
  rfl
theorem r_turnedOf {F : Nat} {K : Nat → Int} {a : Nat} (W : Wv v) (hF : 1000000000000 ≤ F) (hl1 : 0 ≤ less) (hl2 : less ≤ 100) (ha : 3 ≤ a) (ha6 : a ≠ 46) (ha4 : a ≠ 34) {h : MH} {b : Nat → Int} (M : h.1 34 = mO K) (A : h.1 a = aZ 42 v) (B : h.1 46 = aZ 576 b) :
    ∃ (b' : Nat → Int), (∀ k : Nat, k < 576 → b' k = bS v less (-1000000) ((v 15 + 4) % 8) k) ∧ f_M_turnedOf F (some 34) (some a) (zI less) h = some (zI (mT v less), mj_up h 46 (aZ 576 b')) := by
  have hn := ndV_r W
  obtain ⟨b', h1, h2, h3⟩ := s_M_turnedOf (F := F) (K := K) (a := a) W hF hl1 hl2 ha ha6 ha4 M A B
  obtain ⟨g1, g2⟩ := bS_spec W hl1 hl2 (cell := -1000000) (turn := (v 15 + 4) % 8) (Or.inl rfl) (by omega)
  have hu := b_uni W h1 h2 g1 g2
  refine ⟨b', hu, ?_⟩
  rw [h3, hu _ (by omega)]
  rfl
theorem r_firstOf {F : Nat} {K : Nat → Int} {a : Nat} (W : Wv v) (hF : 100 ≤ F) (ha : 3 ≤ a) (hc : cell = -1000000 ∨ (0 ≤ cell ∧ cell < 24)) (ht : 0 ≤ turn ∧ turn < 8) {g : MH} {b : Nat → Int} (M : g.1 34 = mO K) (A : g.1 a = aZ 42 v) (B : g.1 46 = aZ 576 b) (hb : ∀ k : Nat, k < 576 → b k = bS v 0 cell turn k) :
    f_M_firstOf F (some 34) (some a) g = some (zI (fO v cell turn), g) := by
  obtain ⟨g1, g2⟩ := bS_spec (less := 0) W (by omega) (by omega) hc ht
  obtain ⟨x, h1, h2⟩ := s_M_firstOf (F := F) (K := K) W hF ha M A B (fun k hk => by rw [hb k hk]; exact g1.1 k hk)
  rw [h2, fO_eq (Fo_cg W hb h1)]
/-- the class's search says the same -/
theorem Ex_Rg (W : Wv v) {en M : Int} {mi fi : Nat → Int} (E : Ex v less en M mi fi) : Rg mi fi := by
  obtain ⟨e1, e2, e3, e4, e5⟩ := E
  refine ⟨e2, fun s hs h => ?_⟩
  obtain ⟨-, -, g⟩ := e3 s hs h
  rcases g with g | ⟨-, n, g⟩
  · have := e1.2
    rw [← g, Int.toNat_natCast] at this
    omega
  · have := Fw_q W n g
    omega
theorem Sol2 (W : Wv v) (hl1 : 0 ≤ less) (hl2 : less ≤ 100) {en M : Int} {mi fi : Nat → Int} (E : Ex v less en M mi fi) (hc : cell = -1000000 ∨ (0 ≤ cell ∧ cell < 24)) (ht : 0 ≤ turn ∧ turn < 8) {c1 c2 : Int} (hcc : (cell = -1000000 ∧ c1 = 0 ∧ c2 = 23) ∨ (0 ≤ cell ∧ c1 = cell ∧ c2 = cell)) (hM : M = 1000000000 ∨ (cell = -1000000 ∧ en = turn)) {f q : Int} (f0 : 0 ≤ f) (f1 : f ≤ 1000000)
    (h1 : ∀ s : Nat, s < 576 → (c1 ≤ (s : Int) / 24 ∧ (s : Int) / 24 ≤ c2 ∧ (s : Int) / 3 % 8 = turn) → f ≤ mi s)
    (h2 : f = 1000000 ∨ ∃ s : Nat, s < 576 ∧ (c1 ≤ (s : Int) / 24 ∧ (s : Int) / 24 ≤ c2 ∧ (s : Int) / 3 % 8 = turn) ∧ mi s = f ∧ fi s = q)
    (h3 : ∀ s : Nat, s < 576 → (c1 ≤ (s : Int) / 24 ∧ (s : Int) / 24 ≤ c2 ∧ (s : Int) / 3 % 8 = turn) → mi s = f → f < 1000000 → q ≤ fi s) :
    (if f = 1000000 then -1000000 else f) = mV v less cell turn ∧ (less = 0 → (if f = 1000000 then -1000000 else q) = if mV v less cell turn = -1000000 then -1000000 else fO v cell turn) := by
  have hn := ndV_r W
  obtain ⟨g1, g2⟩ := bS_spec W hl1 hl2 hc ht
  have hT : ∀ s : Nat, s < 576 → ((c1 ≤ (s : Int) / 24 ∧ (s : Int) / 24 ≤ c2 ∧ (s : Int) / 3 % 8 = turn) ↔ Tg cell turn s) := by
    intro s hs
    clear h1 h2 h3
    unfold Tg
    omega
  obtain ⟨s1, s2, s3, s4⟩ := Sol W E (T := Tg cell turn) (fun k k' h z => by unfold Tg at z ⊢; omega) (by
      rcases hM with e | ⟨e1, e2⟩
      · exact Or.inl e
      · refine Or.inr (fun s => ?_)
        clear h1 h2 h3
        unfold Tg
        omega) g1 g2 (f := f) (code := q) (fun s hs z => h1 s hs ((hT s hs).mpr z)) (by
      rcases h2 with e | ⟨s, e1, e2, e3, e4⟩
      · exact Or.inl e
      · exact Or.inr ⟨s, e1, (hT s e1).mp e2, e3, e4⟩) (fun s hs z => h3 s hs ((hT s hs).mpr z)) f1
  have hb := g1.1 (ndV v).toNat (by omega)
  by_cases c : f = 1000000
  · have hv : mV v less cell turn = -1000000 := by
      unfold mV
      rw [s2 c, if_pos rfl]
    rw [hv, if_pos c, if_pos c, if_pos rfl]
    exact ⟨rfl, fun _ => rfl⟩
  · have e := s1 (by omega)
    have hv : mV v less cell turn = f := by
      unfold mV
      rw [e, if_neg (by omega)]
    rw [hv, if_neg c, if_neg c, if_neg (by omega)]
    refine ⟨rfl, fun h0 => ?_⟩
    subst h0
    by_cases cT : Tg cell turn (ndV v)
    · obtain ⟨t1, t2⟩ := s3 cT
      rw [t2]
      refine (fO_eq (Or.inl ⟨rfl, fun i m _ _ _ z => ?_⟩)).symm
      obtain ⟨k', -, z2, -⟩ := z
      omega
    · exact (fO_eq (s4 (by omega) cT rfl)).symm
theorem s_toTurn {F : Nat} (W : Wv v) (hl1 : 0 ≤ less) (hl2 : less ≤ 100) (hF : 1000000 ≤ F) {a : Nat} (ha : 26 ≤ a) {h : MH} {R : Nat → Nat → Int} (E : Es h) (B : Bs h a v) (S : Sr h R) :
    ∃ h' R', f_S_minutesToTurn F (some 17) (some a) (zI (vD v less)) h = some (zI (mT v less), h') ∧ Sm h h' ∧ Sr h' R' ∧ (less = 0 → R' 0 5 = if mT v less = -1000000 then -1000000 else fO v (-1000000) ((v 15 + 4) % 8)) := by
  have w15 := W.2.2.2.2.2.2.2.1
  have a7 : ∀ a : Int, 0 ≤ a → a < 16 → zI a &&& zI 7 = zI (a % 8) := zI_and7
  obtain ⟨g0, g1, g2, g3, g4, g5, g6, g7, g8, g9, g10⟩ := b_g B.1
  unfold f_S_minutesToTurn
  rw [g4, bd, l4, zI_add, l7, a7 _ (by omega) (by omega)]
  obtain ⟨h1, R1, M, e1, m1, S1, X1, z1⟩ := s_explore (F := F) W hl1 hF (en := (v 15 + 4) % 8) (by omega) ha E B S
  rw [sr_on S, e1, bd, l0, l23, sr_on S1]
  obtain ⟨f, q, h2, R2, e2, m2, S2, p4, p5, f0, f1, t1, t2, t3⟩ := s_seek (F := F) (c1 := 0) (turn := (v 15 + 4) % 8) (by omega) S1 (Ex_Rg W X1) (by omega) (c2 := 23) (by omega) (by omega) (by omega)
  rw [e2, bd, sg12 S2, bd, p4]
  have hM : M = 1000000000 ∨ ((-1000000 : Int) = -1000000 ∧ (v 15 + 4) % 8 = (v 15 + 4) % 8) := Or.inr ⟨rfl, rfl⟩
  obtain ⟨y1, y2⟩ := Sol2 W hl1 hl2 X1 (cell := -1000000) (turn := (v 15 + 4) % 8) (Or.inl rfl) (by omega) (Or.inl ⟨rfl, rfl, rfl⟩) hM f0 f1 t1 t2 t3
  exact ⟨h2, R2, by rw [y1]; rfl, m1.tr m2, S2, fun h0 => by rw [p5, y2 h0]; rfl⟩
theorem s_seekWay {F : Nat} (W : Wv v) (hF : 1000 ≤ F) (hc : 0 ≤ cell ∧ cell < 24) (ht : 0 ≤ turn ∧ turn < 8) {h : MH} {R : Nat → Nat → Int} (S : Sr h R) (X : Ex v 0 (-1) 1000000000 (R 2) (R 3)) :
    ∃ h' R', f_S_seek F (some 17) (zI cell) (zI cell) (zI turn) h = some h' ∧ Sm h h' ∧ Sr h' R' ∧ R' 0 4 = mV v 0 cell turn ∧ R' 0 5 = if mV v 0 cell turn = -1000000 then -1000000 else fO v cell turn := by
  obtain ⟨f, q, h2, R2, e2, m2, S2, p4, p5, f0, f1, t1, t2, t3⟩ := s_seek (F := F) (c1 := cell) (turn := turn) hF S (Ex_Rg W X) ht (c2 := cell) hc.2 hc.1 (by omega)
  obtain ⟨y1, y2⟩ := Sol2 W (by omega) (by omega) X (Or.inr hc) ht (Or.inr ⟨hc.1, rfl, rfl⟩) (Or.inl rfl) f0 f1 t1 t2 t3
  exact ⟨h2, R2, e2, m2, S2, by rw [p4, y1], by rw [p5, y2 rfl]⟩
end
