/-! ===== the law's start: both objects made ===== -/
def ini (cs : List Nat) (p : Nat) : List (Nat × Nat × Nat) → MH → Option MH
  | [] => fun h => some h
  | (k, t, n) :: l => fun h => Option.bind (newA h t n) fun h2 => Option.bind (pfv h2 (some p) cs k (va_rf (some h.2.1))) fun h4 => ini cs p l h4
def inF (fs : List Value) : List (Nat × Nat × Nat) → Nat → List Value
  | [] => fun _ => fs
  | (k, _, _) :: l => fun b => inF (fs.set k (.ref b)) l (b + 1)
def inS : List (Nat × Nat × Nat) → Nat
  | [] => 0
  | (_, _, n) :: l => n + inS l
theorem ini_ok {cs : List Nat} {c p : Nat} (hc : cs.contains c = true) : ∀ (l : List (Nat × Nat × Nat)) (h : MH) (fs : List Value), h.1 p = oB c fs → p < h.2.1 → (∀ q ∈ l, q.1 < fs.length) → ∃ h', ini cs p l h = some h' ∧ h'.1 p = oB c (inF fs l h.2.1) ∧ (∀ i q, l[i]? = some q → h'.1 (h.2.1 + i) = .inl (q.2.1, q.2.2, fun _ => 0)) ∧ (∀ j, j ≠ p → (j < h.2.1 ∨ h.2.1 + l.length ≤ j) → h'.1 j = h.1 j) ∧ h'.2.1 = h.2.1 + l.length ∧ h'.2.2 = h.2.2 + inS l := by
  intro l
  induction l with
  | nil => exact fun h fs H hp hl => ⟨h, rfl, H, fun i q z => (by cases z), fun j _ _ => rfl, rfl, rfl⟩
  | cons a l ih =>
    intro h fs H hp hl
    obtain ⟨k, t, n⟩ := a
    have hk : k < fs.length := hl (k, t, n) List.mem_cons_self
    have H2 : (newa h t n).1 p = oB c fs := by
      show (if p = h.2.1 then _ else h.1 p) = _
      rw [if_neg (by omega)]
      exact H
    have e2 := pfv_o (v := .ref h.2.1) H2 hk hc
    obtain ⟨h4, hh4⟩ : ∃ h4, h4 = mj_up (newa h t n) p (oB c (fs.set k (.ref h.2.1))) := ⟨_, rfl⟩
    have n4 : h4.2.1 = h.2.1 + 1 ∧ h4.2.2 = h.2.2 + n := by rw [hh4]; exact ⟨rfl, rfl⟩
    have a4 : ∀ j, j ≠ p → h4.1 j = if j = h.2.1 then .inl (t, n, fun _ => 0) else h.1 j := fun j hj => by
      rw [hh4, up_get, if_neg hj]
      rfl
    obtain ⟨h', e', r1, r2, r3, r4, r5⟩ := ih h4 (fs.set k (.ref h.2.1)) (by rw [hh4, up_get, if_pos rfl]) (by omega) (fun q hq => by rw [List.length_set]; exact hl q (List.mem_cons_of_mem _ hq))
    refine ⟨h', ?_, by rw [r1, n4.1]; rfl, fun i q hq => ?_, fun j hj hj2 => ?_, by rw [r4, n4.1, List.length_cons]; omega, ?_⟩
    · show (Option.bind (newA h t n) fun h2 => Option.bind (pfv h2 (some p) cs k (va_rf (some h.2.1))) fun h4 => ini cs p l h4) = some h'
      rw [show newA h t n = some (newa h t n) from rfl, bd, show pfv (newa h t n) (some p) cs k (va_rf (some h.2.1)) = some h4 by rw [hh4]; exact e2, bd]
      exact e'
    · cases i with
      | zero =>
        cases hq
        rw [Nat.add_zero, r3 h.2.1 (by omega) (by omega), a4 h.2.1 (by omega), if_pos rfl]
      | succ i =>
        have := r2 i q hq
        rw [n4.1, show h.2.1 + 1 + i = h.2.1 + (i + 1) by omega] at this
        exact this
    · rw [List.length_cons] at hj2
      rw [r3 j hj (by omega), a4 j hj, if_neg (by omega)]
    · rw [r5, n4.2]
      show h.2.2 + n + inS l = h.2.2 + (n + inS l)
      omega
theorem newo_f (h : MH) (ci : Nat) (fs : List Value) : (newo h ci fs).1 h.2.1 = oB ci fs ∧ (∀ j, j ≠ h.2.1 → (newo h ci fs).1 j = h.1 j) ∧ (newo h ci fs).2.1 = h.2.1 + 1 ∧ (newo h ci fs).2.2 = h.2.2 + fs.length := by
  refine ⟨?_, fun j hj => ?_, rfl, rfl⟩
  · show (if h.2.1 = h.2.1 then _ else _) = _
    rw [if_pos rfl]
  · show (if j = h.2.1 then _ else _) = _
    rw [if_neg hj]
/-- an object made, and its arrays -/
theorem mk_ini {cs : List Nat} {ci : Nat} (hc : cs.contains ci = true) (l : List (Nat × Nat × Nat)) (h : MH) (hl : ∀ q ∈ l, q.1 < (o_of ci).length) : ∃ h2 h', newO h ci = some h2 ∧ ini cs h.2.1 l h2 = some h' ∧ h'.1 h.2.1 = oB ci (inF (o_of ci) l (h.2.1 + 1)) ∧ (∀ i q, l[i]? = some q → h'.1 (h.2.1 + 1 + i) = .inl (q.2.1, q.2.2, fun _ => 0)) ∧ (∀ j, (j < h.2.1 ∨ h.2.1 + 1 + l.length ≤ j) → h'.1 j = h.1 j) ∧ h'.2.1 = h.2.1 + 1 + l.length ∧ h'.2.2 = h.2.2 + (o_of ci).length + inS l := by
  obtain ⟨q1, q2, q3, q4⟩ := newo_f h ci (o_of ci)
  obtain ⟨h', e', r1, r2, r3, r4, r5⟩ := ini_ok hc l (newo h ci (o_of ci)) (o_of ci) q1 (by omega) hl
  rw [q3] at r1 r2 r3 r4
  refine ⟨newo h ci (o_of ci), h', rfl, e', r1, r2, fun j hj => ?_, r4, by rw [r5, q4]⟩
  rw [r3 j (by omega) (by omega), q2 j (by omega)]
theorem ini_A (p : Nat) (h : MH) : f_A_init (some p) h = ini [0] p [(0, 0, 24), (1, 0, 24), (2, 0, 24), (3, 0, 24), (4, 0, 24), (5, 0, 24)] h := by simp only [f_A_init, ini, bd]
theorem ini_S (p : Nat) (h : MH) : f_S_init (some p) h = ini [6] p [(0, 0, 192), (1, 0, 576), (2, 0, 576), (3, 0, 576), (4, 0, 576), (5, 0, 21), (6, 0, 10), (7, 0, 10)] h := by simp only [f_S_init, ini, bd]
theorem ini_T (p : Nat) (h : MH) : f_T_init (some p) h = ini [9] p [(0, 0, 120)] h := rfl
theorem ini_cons (cs : List Nat) (p k t n : Nat) (l : List (Nat × Nat × Nat)) (h : MH) : ini cs p ((k, t, n) :: l) h = Option.bind (newA h t n) fun h2 => Option.bind (pfv h2 (some p) cs k (va_rf (some h.2.1))) fun h4 => ini cs p l h4 := rfl
theorem ini_M (p : Nat) (h : MH) : f_M_init (some p) h = ini [11] p [(1, 0, 120), (10, 0, 8), (11, 0, 8), (12, 0, 320), (14, 0, 42), (15, 0, 42), (16, 0, 42), (17, 0, 1008), (19, 0, 84), (20, 1, 2), (21, 0, 16), (23, 0, 576), (24, 0, 2880)] h := by
  unfold f_M_init
  rw [bd]
  rw [ini_cons]
  refine congrArg (Option.bind _) (funext fun h2 => congrArg (Option.bind _) (funext fun h4 => ?_))
  rw [ini_cons]
  refine congrArg (Option.bind _) (funext fun h2 => congrArg (Option.bind _) (funext fun h4 => ?_))
  rw [ini_cons]
  refine congrArg (Option.bind _) (funext fun h2 => congrArg (Option.bind _) (funext fun h4 => ?_))
  rw [ini_cons]
  refine congrArg (Option.bind _) (funext fun h2 => congrArg (Option.bind _) (funext fun h4 => ?_))
  rw [ini_cons]
  refine congrArg (Option.bind _) (funext fun h2 => congrArg (Option.bind _) (funext fun h4 => ?_))
  rw [ini_cons]
  refine congrArg (Option.bind _) (funext fun h2 => congrArg (Option.bind _) (funext fun h4 => ?_))
  rw [ini_cons]
  refine congrArg (Option.bind _) (funext fun h2 => congrArg (Option.bind _) (funext fun h4 => ?_))
  rw [ini_cons]
  refine congrArg (Option.bind _) (funext fun h2 => congrArg (Option.bind _) (funext fun h4 => ?_))
  rw [ini_cons]
  refine congrArg (Option.bind _) (funext fun h2 => congrArg (Option.bind _) (funext fun h4 => ?_))
  rw [ini_cons]
  refine congrArg (Option.bind _) (funext fun h2 => congrArg (Option.bind _) (funext fun h4 => ?_))
  rw [ini_cons]
  refine congrArg (Option.bind _) (funext fun h2 => congrArg (Option.bind _) (funext fun h4 => ?_))
  rw [ini_cons]
  refine congrArg (Option.bind _) (funext fun h2 => congrArg (Option.bind _) (funext fun h4 => ?_))
  rw [ini_cons]
  refine congrArg (Option.bind _) (funext fun h2 => congrArg (Option.bind _) (funext fun h4 => ?_))
  rfl
theorem ini_Rw (F p : Nat) (h : MH) : f_Rw_init F (some p) h = Option.bind (ini [5] p [(0, 0, 320), (1, 0, 8), (2, 0, 8)] h) fun h12 => Option.bind (gfr h12 (some p) [5] 1) fun x14 => Option.bind (f_J_fill F x14 (-1 : Int32) h12) fun h16 => some h16 := by simp only [f_Rw_init, ini, bd, Option.bind_assoc]
theorem pf3 {h : MH} {fs : List Value} (H : h.1 3 = oB 10 fs) {k : Nat} (hk : k < fs.length) (b : Nat) : ∃ h', pfv h (some 3) [10] k (va_rf (some b)) = some h' ∧ h'.1 3 = oB 10 (fs.set k (.ref b)) ∧ (∀ j, j ≠ 3 → h'.1 j = h.1 j) ∧ h'.2 = h.2 := ⟨_, pfv_o H hk rfl, by rw [up_get, if_pos rfl]; rfl, fun j hj => by rw [up_get, if_neg hj], rfl⟩
