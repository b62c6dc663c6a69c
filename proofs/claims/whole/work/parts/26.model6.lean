/-! WideTurnModel.days(III)I -/
def b_M_days_159 (F : Nat) (k70 : (Option Nat) → Int32 → Int32 → Int64 → Int32 → Int32 → MH → (Option (Int32 × MH))) : (Option Nat) → (Int32) → (Int32) → (Int64) → (Int32) → (Int32) → (Int32) → (MH) → (Option (Int32 × MH)) := fun v0 v1 v3 v4 v7 s0 s1 h => 
  k70 v0 v1 v3 v4 (s0 + s1) (v7 + (1 : Int32)) h
def b_M_days_145 (F : Nat) (k70 : (Option Nat) → Int32 → Int32 → Int64 → Int32 → Int32 → MH → (Option (Int32 × MH))) : (Option Nat) → (Int32) → (Int32) → (Int64) → (Int32) → (Int32) → (Int32) → (MH) → (Option (Int32 × MH)) := fun v0 v1 v3 v4 v6 v7 s0 h => 
  if s0 = 0 then
    b_M_days_159 F k70 v0 v1 v3 v4 v7 v6 (0 : Int32) h
  else
    b_M_days_159 F k70 v0 v1 v3 v4 v7 v6 (1 : Int32) h
def b_M_days_144 (F : Nat) (k70 : (Option Nat) → Int32 → Int32 → Int64 → Int32 → Int32 → MH → (Option (Int32 × MH))) : (Option Nat) → (Int32) → (Int32) → (Int64) → (Int32) → (Int32) → (MH) → (Option (Int32 × MH)) := fun v0 v1 v3 v4 v6 v7 h => 
  b_M_days_145 F k70 v0 v1 v3 v4 v6 v7 (0 : Int32) h
def b_M_days_123 (F : Nat) (k70 : (Option Nat) → Int32 → Int32 → Int64 → Int32 → Int32 → MH → (Option (Int32 × MH))) : (Option Nat) → (Int32) → (Int32) → (Int64) → (Int32) → (Int32) → (Option Nat) → (Int64) → (Int32) → (MH) → (Option (Int32 × MH)) := fun v0 v1 v3 v4 v6 v7 s0 s1 s2 h => 
  Option.bind (mj_nzl (Int32.toInt64 s2)) fun _ =>
  Option.bind (f_M_goes s0 (Int64.toInt32 (mj_lrem s1 (Int32.toInt64 s2))) (Int64.toInt32 (mj_lrem v4 (8 : Int64))) (0 : Int32) h) fun x3 =>
  if x3.1 = 0 then
    b_M_days_144 F k70 v0 v1 v3 v4 v6 v7 x3.2
  else
    b_M_days_145 F k70 v0 v1 v3 v4 v6 v7 (1 : Int32) x3.2
def b_M_days_70 (F : Nat) : Nat → (Option Nat) → (Int32) → (Int32) → (Int64) → (Int32) → (Int32) → (MH) → (Option (Int32 × MH))
  | 0 => fun _ _ _ _ _ _ _ => none
  | n + 1 => fun v0 v1 v3 v4 v6 v7 h => 
    if v1 ≤ v7 then
      if v3 = 0 then
        Option.bind (gfr h v0 [11] 16) fun x3 =>
        Option.bind (ald h x3 0 (14 : Int32)) fun x5 =>
        Option.bind (gfr h v0 [11] 16) fun x7 =>
        Option.bind (ald h x7 0 (15 : Int32)) fun x9 =>
        some ((((10 : Int32) * x5) + x9), h)
      else
        some (v6, h)
    else
      Option.bind (gfr h v0 [11] 15) fun x11 =>
      Option.bind (ald h x11 0 (4 : Int32)) fun x13 =>
      if x13 ≤ 0 then
        b_M_days_144 F (b_M_days_70 F n) v0 v1 v3 (mj_lrem (v4 * (16807 : Int64)) (2147483647 : Int64)) v6 v7 h
      else
        Option.bind (gfr h v0 [11] 16) fun x16 =>
        Option.bind (gfr h v0 [11] 15) fun x18 =>
        Option.bind (ald h x18 0 (4 : Int32)) fun x20 =>
        if (1 : Int32) ≤ x20 then
          Option.bind (gfr h v0 [11] 15) fun x23 =>
          Option.bind (ald h x23 0 (4 : Int32)) fun x25 =>
          b_M_days_123 F (b_M_days_70 F n) v0 v1 v3 (mj_lrem (v4 * (16807 : Int64)) (2147483647 : Int64)) v6 v7 x16 (mj_lrem (v4 * (16807 : Int64)) (2147483647 : Int64)) x25 h
        else
          b_M_days_123 F (b_M_days_70 F n) v0 v1 v3 (mj_lrem (v4 * (16807 : Int64)) (2147483647 : Int64)) v6 v7 x16 (mj_lrem (v4 * (16807 : Int64)) (2147483647 : Int64)) (1 : Int32) h
def f_M_days (F : Nat) (v0 : Option Nat) (v1 : Int32) (v2 : Int32) (v3 : Int32) (h : MH) : Option (Int32 × MH) :=
  Option.bind (pfv h v0 [11] 0 (.int (0 : Int32))) fun h1 =>
  Option.bind (gfr h1 v0 [11] 15) fun x3 =>
  Option.bind (ald h1 x3 0 (0 : Int32)) fun x5 =>
  if x5 = 0 then
    some ((-1000002 : Int32), h1)
  else
    if (f_M_in v1 (0 : Int32) (60 : Int32)) = 0 then
      some ((-1000001 : Int32), h1)
    else
      if (f_M_in v2 (1 : Int32) (999999 : Int32)) = 0 then
        some ((-1000001 : Int32), h1)
      else
        if (f_M_in v3 (0 : Int32) (1 : Int32)) = 0 then
          some ((-1000001 : Int32), h1)
        else
          Option.bind (gfr h1 v0 [11] 15) fun x11 =>
          Option.bind (gfr h1 v0 [11] 16) fun x13 =>
          Option.bind (f_M_copies F x11 x13 h1) fun h15 =>
          b_M_days_70 F F v0 v1 v3 (Int32.toInt64 v2) (0 : Int32) (0 : Int32) h15
set_option maxHeartbeats 4000000 in
set_option maxRecDepth 200000 in
theorem p_M_days_159 (F : Nat) {h0 : MH} (k70 : (Option Nat) → Int32 → Int32 → Int64 → Int32 → Int32 → MH → (Option (Int32 × MH))) (hk70 : ∀ (v0 : Option Nat) (v1 : Int32) (v3 : Int32) (v4 : Int64) (v6 : Int32) (v7 : Int32) (h : MH) (r : (Int32 × MH)), k70 v0 v1 v3 v4 v6 v7 h = some r → Rt mi_M_days 6 h0 70 [(0, va_rf v0), (1, .int v1), (3, .int v3), (4, .long v4), (6, .int v6), (7, .int v7)] [] h (some (.int r.1)) r.2) (v0 : Option Nat) (v1 : Int32) (v3 : Int32) (v4 : Int64) (v7 : Int32) (s0 : Int32) (s1 : Int32) (h : MH) (r : (Int32 × MH)) : b_M_days_159 F k70  v0 v1 v3 v4 v7 s0 s1 h = some r → Rt mi_M_days 6 h0 159 [(0, va_rf v0), (1, .int v1), (3, .int v3), (4, .long v4), (7, .int v7)] [.int s1, .int s0] h (some (.int r.1)) r.2 := by
  intro hyp
  unfold b_M_days_159 at hyp
  refine rt_st (pc1 := 70) (fun _ _ B => go_iadd d_M_days_159 (go_istore (lv1 := [(6, .int (s0 + s1)), (0, va_rf v0), (1, .int v1), (3, .int v3), (4, .long v4), (7, .int v7)]) d_M_days_160 (by decide) rfl (go_iinc (v := (v7 + (1 : Int32))) (lv1 := [(7, .int (v7 + (1 : Int32))), (6, .int (s0 + s1)), (0, va_rf v0), (1, .int v1), (3, .int v3), (4, .long v4)]) 5 d_M_days_162 rfl rfl (by decide) rfl (go_goto 70 d_M_days_165 rfl B)))) ?_
  refine rt_sub [2, 3, 4, 5, 1, 0] (lv1 := [(0, va_rf v0), (1, .int v1), (3, .int v3), (4, .long v4), (6, .int (s0 + s1)), (7, .int (v7 + (1 : Int32)))]) rfl ?_
  exact hk70 _ _ _ _ _ _ _ _ hyp
set_option maxHeartbeats 4000000 in
set_option maxRecDepth 200000 in
theorem p_M_days_145 (F : Nat) {h0 : MH} (k70 : (Option Nat) → Int32 → Int32 → Int64 → Int32 → Int32 → MH → (Option (Int32 × MH))) (hk70 : ∀ (v0 : Option Nat) (v1 : Int32) (v3 : Int32) (v4 : Int64) (v6 : Int32) (v7 : Int32) (h : MH) (r : (Int32 × MH)), k70 v0 v1 v3 v4 v6 v7 h = some r → Rt mi_M_days 6 h0 70 [(0, va_rf v0), (1, .int v1), (3, .int v3), (4, .long v4), (6, .int v6), (7, .int v7)] [] h (some (.int r.1)) r.2) (v0 : Option Nat) (v1 : Int32) (v3 : Int32) (v4 : Int64) (v6 : Int32) (v7 : Int32) (s0 : Int32) (h : MH) (r : (Int32 × MH)) : b_M_days_145 F k70  v0 v1 v3 v4 v6 v7 s0 h = some r → Rt mi_M_days 6 h0 145 [(0, va_rf v0), (1, .int v1), (3, .int v3), (4, .long v4), (6, .int v6), (7, .int v7)] [.int s0] h (some (.int r.1)) r.2 := by
  intro hyp
  unfold b_M_days_145 at hyp
  refine rt_st (pc1 := 151) (fun _ _ B => go_istore (lv1 := [(8, .int s0), (0, va_rf v0), (1, .int v1), (3, .int v3), (4, .long v4), (6, .int v6), (7, .int v7)]) d_M_days_145 (by decide) rfl (go_iload 5 d_M_days_147 rfl (go_iload 0 d_M_days_149 rfl B))) ?_
  by_cases c1 : s0 = 0
  · replace hyp := (if_pos c1).symm.trans hyp
    refine rt_st (pc1 := 159) (fun _ _ B => go_if_eq_t 158 d_M_days_151 rfl c1 (go_iconst (v := (0 : Int32)) d_M_days_158 (by decide) B)) ?_
    refine rt_sub [1, 2, 3, 4, 6] (lv1 := [(0, va_rf v0), (1, .int v1), (3, .int v3), (4, .long v4), (7, .int v7)]) rfl ?_
    exact p_M_days_159 F k70 hk70 _ _ _ _ _ _ _ _ r hyp
  · replace hyp := (if_neg c1).symm.trans hyp
    refine rt_st (pc1 := 159) (fun _ _ B => go_if_eq_f d_M_days_151 rfl c1 (go_iconst (v := (1 : Int32)) d_M_days_154 (by decide) (go_goto 159 d_M_days_155 rfl B))) ?_
    refine rt_sub [1, 2, 3, 4, 6] (lv1 := [(0, va_rf v0), (1, .int v1), (3, .int v3), (4, .long v4), (7, .int v7)]) rfl ?_
    exact p_M_days_159 F k70 hk70 _ _ _ _ _ _ _ _ r hyp
set_option maxHeartbeats 4000000 in
set_option maxRecDepth 200000 in
theorem p_M_days_144 (F : Nat) {h0 : MH} (k70 : (Option Nat) → Int32 → Int32 → Int64 → Int32 → Int32 → MH → (Option (Int32 × MH))) (hk70 : ∀ (v0 : Option Nat) (v1 : Int32) (v3 : Int32) (v4 : Int64) (v6 : Int32) (v7 : Int32) (h : MH) (r : (Int32 × MH)), k70 v0 v1 v3 v4 v6 v7 h = some r → Rt mi_M_days 6 h0 70 [(0, va_rf v0), (1, .int v1), (3, .int v3), (4, .long v4), (6, .int v6), (7, .int v7)] [] h (some (.int r.1)) r.2) (v0 : Option Nat) (v1 : Int32) (v3 : Int32) (v4 : Int64) (v6 : Int32) (v7 : Int32) (h : MH) (r : (Int32 × MH)) : b_M_days_144 F k70  v0 v1 v3 v4 v6 v7 h = some r → Rt mi_M_days 6 h0 144 [(0, va_rf v0), (1, .int v1), (3, .int v3), (4, .long v4), (6, .int v6), (7, .int v7)] [] h (some (.int r.1)) r.2 := by
  intro hyp
  unfold b_M_days_144 at hyp
  refine rt_st (pc1 := 145) (fun _ _ B => go_iconst (v := (0 : Int32)) d_M_days_144 (by decide) B) ?_
  exact p_M_days_145 F k70 hk70 _ _ _ _ _ _ _ _ r hyp
set_option maxHeartbeats 4000000 in
set_option maxRecDepth 200000 in
theorem p_M_days_123 (F : Nat) {h0 : MH} (k70 : (Option Nat) → Int32 → Int32 → Int64 → Int32 → Int32 → MH → (Option (Int32 × MH))) (hk70 : ∀ (v0 : Option Nat) (v1 : Int32) (v3 : Int32) (v4 : Int64) (v6 : Int32) (v7 : Int32) (h : MH) (r : (Int32 × MH)), k70 v0 v1 v3 v4 v6 v7 h = some r → Rt mi_M_days 6 h0 70 [(0, va_rf v0), (1, .int v1), (3, .int v3), (4, .long v4), (6, .int v6), (7, .int v7)] [] h (some (.int r.1)) r.2) (v0 : Option Nat) (v1 : Int32) (v3 : Int32) (v4 : Int64) (v6 : Int32) (v7 : Int32) (s0 : Option Nat) (s1 : Int64) (s2 : Int32) (h : MH) (r : (Int32 × MH)) : b_M_days_123 F k70  v0 v1 v3 v4 v6 v7 s0 s1 s2 h = some r → Rt mi_M_days 6 h0 123 [(0, va_rf v0), (1, .int v1), (3, .int v3), (4, .long v4), (6, .int v6), (7, .int v7)] [.int s2, .long s1, va_rf s0] h (some (.int r.1)) r.2 := by
  intro hyp
  unfold b_M_days_123 at hyp
  obtain ⟨_, e2, hyp⟩ := Option.bind_eq_some_iff.mp hyp
  obtain ⟨x3, e4, hyp⟩ := Option.bind_eq_some_iff.mp hyp
  refine rt_st (pc1 := 137) (fun _ _ B => go_i2l d_M_days_123 (go_lrem d_M_days_124 (mj_nzl_spec e2) (go_l2i d_M_days_125 (go_lload 3 d_M_days_126 rfl (go_ldc2 (v := (8 : Int64)) d_M_days_128 w1328 (go_lrem d_M_days_131 (by decide) (go_l2i d_M_days_132 (go_iconst (v := (0 : Int32)) d_M_days_133 (by decide) (go_callS1 (st := []) [va_rf s0, .int (Int64.toInt32 (mj_lrem s1 (Int32.toInt64 s2))), .int (Int64.toInt32 (mj_lrem v4 (8 : Int64))), .int (0 : Int32)] (t_M_goes s0 (Int64.toInt32 (mj_lrem s1 (Int32.toInt64 s2))) (Int64.toInt32 (mj_lrem v4 (8 : Int64))) (0 : Int32) h _ e4) mm_M_goes (by decide) d_M_days_134 w1173 w1174 rfl (Nat.le_of_ble_eq_true rfl) rfl B))))))))) ?_
  by_cases c5 : x3.1 = 0
  · replace hyp := (if_pos c5).symm.trans hyp
    refine rt_st (pc1 := 144) (fun _ _ B => go_if_eq_t 144 d_M_days_137 rfl c5 B) ?_
    exact p_M_days_144 F k70 hk70 _ _ _ _ _ _ _ r hyp
  · replace hyp := (if_neg c5).symm.trans hyp
    refine rt_st (pc1 := 145) (fun _ _ B => go_if_eq_f d_M_days_137 rfl c5 (go_iconst (v := (1 : Int32)) d_M_days_140 (by decide) (go_goto 145 d_M_days_141 rfl B))) ?_
    exact p_M_days_145 F k70 hk70 _ _ _ _ _ _ _ _ r hyp
set_option maxHeartbeats 4000000 in
set_option maxRecDepth 200000 in
theorem p_M_days_70 (F : Nat) {h0 : MH} : ∀ (n : Nat) (v0 : Option Nat) (v1 : Int32) (v3 : Int32) (v4 : Int64) (v6 : Int32) (v7 : Int32) (h : MH) (r : (Int32 × MH)), b_M_days_70 F  n v0 v1 v3 v4 v6 v7 h = some r → Rt mi_M_days 6 h0 70 [(0, va_rf v0), (1, .int v1), (3, .int v3), (4, .long v4), (6, .int v6), (7, .int v7)] [] h (some (.int r.1)) r.2 := by
  intro n
  induction n with
  | zero =>
    intro v0 v1 v3 v4 v6 v7 h r hyp
    cases hyp
  | succ n ih =>
    intro v0 v1 v3 v4 v6 v7 h r hyp
    unfold b_M_days_70 at hyp
    refine rt_st (pc1 := 73) (fun _ _ B => go_iload 5 d_M_days_70 rfl (go_iload_n 1 d_M_days_72 rfl B)) ?_
    by_cases c1 : v1 ≤ v7
    · replace hyp := (if_pos c1).symm.trans hyp
      refine rt_st (pc1 := 169) (fun _ _ B => go_icmp_ge_t 168 d_M_days_73 rfl c1 (go_iload_n 2 d_M_days_168 rfl B)) ?_
      by_cases c2 : v3 = 0
      · replace hyp := (if_pos c2).symm.trans hyp
        obtain ⟨x3, e4, hyp⟩ := Option.bind_eq_some_iff.mp hyp
        obtain ⟨x5, e6, hyp⟩ := Option.bind_eq_some_iff.mp hyp
        obtain ⟨x7, e8, hyp⟩ := Option.bind_eq_some_iff.mp hyp
        obtain ⟨x9, e10, hyp⟩ := Option.bind_eq_some_iff.mp hyp
        refine rt_st (pc1 := 195) (fun _ _ B => go_if_ne_f d_M_days_169 rfl c2 (go_bipush (v := (10 : Int32)) d_M_days_172 (by decide) (go_aload_n 0 d_M_days_174 rfl (go_gfr d_M_days_175 fd_11_16 w1005 e4 (go_bipush (v := (14 : Int32)) d_M_days_178 (by decide) (go_iald d_M_days_180 e6 (go_imul d_M_days_181 (go_aload_n 0 d_M_days_182 rfl (go_gfr d_M_days_183 fd_11_16 w1005 e8 (go_bipush (v := (15 : Int32)) d_M_days_186 (by decide) (go_iald d_M_days_188 e10 (go_iadd d_M_days_189 (go_goto 195 d_M_days_190 rfl B))))))))))))) ?_
        exact rt_eqW Value.int hyp (rt_int d_M_days_195 rfl)
      · replace hyp := (if_neg c2).symm.trans hyp
        refine rt_st (pc1 := 195) (fun _ _ B => go_if_ne_t 193 d_M_days_169 rfl c2 (go_iload 4 d_M_days_193 rfl B)) ?_
        exact rt_eqW Value.int hyp (rt_int d_M_days_195 rfl)
    · replace hyp := (if_neg c1).symm.trans hyp
      obtain ⟨x11, e12, hyp⟩ := Option.bind_eq_some_iff.mp hyp
      obtain ⟨x13, e14, hyp⟩ := Option.bind_eq_some_iff.mp hyp
      refine rt_st (pc1 := 94) (fun _ _ B => go_icmp_ge_f d_M_days_73 rfl c1 (go_lload 3 d_M_days_76 rfl (go_ldc2 (v := (16807 : Int64)) d_M_days_78 w1326 (go_lmul d_M_days_81 (go_ldc2 (v := (2147483647 : Int64)) d_M_days_82 w1327 (go_lrem d_M_days_85 (by decide) (go_lstore (lv1 := [(4, .long (mj_lrem (v4 * (16807 : Int64)) (2147483647 : Int64))), (0, va_rf v0), (1, .int v1), (3, .int v3), (6, .int v6), (7, .int v7)]) d_M_days_86 (by decide) rfl (go_aload_n 1 d_M_days_88 rfl (go_gfr d_M_days_89 fd_11_15 w1004 e12 (go_iconst (v := (4 : Int32)) d_M_days_92 (by decide) (go_iald d_M_days_93 e14 B))))))))))) ?_
      by_cases c15 : x13 ≤ 0
      · replace hyp := (if_pos c15).symm.trans hyp
        refine rt_st (pc1 := 144) (fun _ _ B => go_if_le_t 144 d_M_days_94 rfl c15 B) ?_
        refine rt_sub [1, 2, 3, 0, 4, 5] (lv1 := [(0, va_rf v0), (1, .int v1), (3, .int v3), (4, .long (mj_lrem (v4 * (16807 : Int64)) (2147483647 : Int64))), (6, .int v6), (7, .int v7)]) rfl ?_
        exact p_M_days_144 F (b_M_days_70 F n) (fun a0 a1 a2 a3 a4 a5 a6 r hyp => ih a0 a1 a2 a3 a4 a5 a6 r hyp) _ _ _ _ _ _ _ r hyp
      · replace hyp := (if_neg c15).symm.trans hyp
        obtain ⟨x16, e17, hyp⟩ := Option.bind_eq_some_iff.mp hyp
        obtain ⟨x18, e19, hyp⟩ := Option.bind_eq_some_iff.mp hyp
        obtain ⟨x20, e21, hyp⟩ := Option.bind_eq_some_iff.mp hyp
        refine rt_st (pc1 := 110) (fun _ _ B => go_if_le_f d_M_days_94 rfl c15 (go_aload_n 1 d_M_days_97 rfl (go_gfr d_M_days_98 fd_11_16 w1005 e17 (go_lload 0 d_M_days_101 rfl (go_aload_n 1 d_M_days_103 rfl (go_gfr d_M_days_104 fd_11_15 w1004 e19 (go_iconst (v := (4 : Int32)) d_M_days_107 (by decide) (go_iald d_M_days_108 e21 (go_iconst (v := (1 : Int32)) d_M_days_109 (by decide) B))))))))) ?_
        by_cases c22 : (1 : Int32) ≤ x20
        · replace hyp := (if_pos c22).symm.trans hyp
          obtain ⟨x23, e24, hyp⟩ := Option.bind_eq_some_iff.mp hyp
          obtain ⟨x25, e26, hyp⟩ := Option.bind_eq_some_iff.mp hyp
          refine rt_st (pc1 := 123) (fun _ _ B => go_icmp_ge_t 117 d_M_days_110 rfl c22 (go_aload_n 1 d_M_days_117 rfl (go_gfr d_M_days_118 fd_11_15 w1004 e24 (go_iconst (v := (4 : Int32)) d_M_days_121 (by decide) (go_iald d_M_days_122 e26 B))))) ?_
          refine rt_sub [1, 2, 3, 0, 4, 5] (lv1 := [(0, va_rf v0), (1, .int v1), (3, .int v3), (4, .long (mj_lrem (v4 * (16807 : Int64)) (2147483647 : Int64))), (6, .int v6), (7, .int v7)]) rfl ?_
          exact p_M_days_123 F (b_M_days_70 F n) (fun a0 a1 a2 a3 a4 a5 a6 r hyp => ih a0 a1 a2 a3 a4 a5 a6 r hyp) _ _ _ _ _ _ _ _ _ _ r hyp
        · replace hyp := (if_neg c22).symm.trans hyp
          refine rt_st (pc1 := 123) (fun _ _ B => go_icmp_ge_f d_M_days_110 rfl c22 (go_iconst (v := (1 : Int32)) d_M_days_113 (by decide) (go_goto 123 d_M_days_114 rfl B))) ?_
          refine rt_sub [1, 2, 3, 0, 4, 5] (lv1 := [(0, va_rf v0), (1, .int v1), (3, .int v3), (4, .long (mj_lrem (v4 * (16807 : Int64)) (2147483647 : Int64))), (6, .int v6), (7, .int v7)]) rfl ?_
          exact p_M_days_123 F (b_M_days_70 F n) (fun a0 a1 a2 a3 a4 a5 a6 r hyp => ih a0 a1 a2 a3 a4 a5 a6 r hyp) _ _ _ _ _ _ _ _ _ _ r hyp
set_option maxHeartbeats 4000000 in
set_option maxRecDepth 200000 in
theorem t_M_days (F : Nat) (v0 : Option Nat) (v1 : Int32) (v2 : Int32) (v3 : Int32) (h : MH) (r : (Int32 × MH)) (hyp : f_M_days F v0 v1 v2 v3 h = some r) : Mt mi_M_days 6 [va_rf v0, .int v1, .int v2, .int v3] h (some (.int r.1)) r.2 := by
  refine Mt.rt (lv := [(0, va_rf v0), (1, .int v1), (2, .int v2), (3, .int v3)]) (by decide +kernel) (by simp [lv_args, mj_rfc, mj_cti, mj_ctl]) (by simp [mj_rfc, mj_cti, mj_ctl]) ?_
  unfold f_M_days at hyp
  obtain ⟨h1, e2, hyp⟩ := Option.bind_eq_some_iff.mp hyp
  obtain ⟨x3, e4, hyp⟩ := Option.bind_eq_some_iff.mp hyp
  obtain ⟨x5, e6, hyp⟩ := Option.bind_eq_some_iff.mp hyp
  refine rt_st (pc1 := 11) (fun _ _ B => go_aload_n 0 d_M_days_0 rfl (go_iconst (v := (0 : Int32)) d_M_days_1 (by decide) (go_pfi d_M_days_2 fd_11_0 w989 (fun q => by cases q) e2 (go_aload_n 0 d_M_days_5 rfl (go_gfr d_M_days_6 fd_11_15 w1004 e4 (go_iconst (v := (0 : Int32)) d_M_days_9 (by decide) (go_iald d_M_days_10 e6 B))))))) ?_
  by_cases c7 : x5 = 0
  · replace hyp := (if_pos c7).symm.trans hyp
    refine rt_st (pc1 := 16) (fun _ _ B => go_if_ne_f d_M_days_11 rfl c7 (go_ldc (v := (-1000002 : Int32)) d_M_days_14 w1164 B)) ?_
    exact rt_eqW Value.int hyp (rt_int d_M_days_16 rfl)
  · replace hyp := (if_neg c7).symm.trans hyp
    refine rt_st (pc1 := 24) (fun _ _ B => go_if_ne_t 17 d_M_days_11 rfl c7 (go_iload_n 1 d_M_days_17 rfl (go_iconst (v := (0 : Int32)) d_M_days_18 (by decide) (go_bipush (v := (60 : Int32)) d_M_days_19 (by decide) (go_callS1 (st := []) [.int v1, .int (0 : Int32), .int (60 : Int32)] (t_M_in v1 (0 : Int32) (60 : Int32) h1) mm_M_in (by decide) d_M_days_21 w1073 w1074 rfl (Nat.le_of_ble_eq_true rfl) rfl B))))) ?_
    by_cases c8 : (f_M_in v1 (0 : Int32) (60 : Int32)) = 0
    · replace hyp := (if_pos c8).symm.trans hyp
      refine rt_st (pc1 := 48) (fun _ _ B => go_if_eq_t 46 d_M_days_24 rfl c8 (go_ldc (v := (-1000001 : Int32)) d_M_days_46 w1076 B)) ?_
      exact rt_eqW Value.int hyp (rt_int d_M_days_48 rfl)
    · replace hyp := (if_neg c8).symm.trans hyp
      refine rt_st (pc1 := 34) (fun _ _ B => go_if_eq_f d_M_days_24 rfl c8 (go_iload_n 2 d_M_days_27 rfl (go_iconst (v := (1 : Int32)) d_M_days_28 (by decide) (go_ldc (v := (999999 : Int32)) d_M_days_29 w1325 (go_callS1 (st := []) [.int v2, .int (1 : Int32), .int (999999 : Int32)] (t_M_in v2 (1 : Int32) (999999 : Int32) h1) mm_M_in (by decide) d_M_days_31 w1073 w1074 rfl (Nat.le_of_ble_eq_true rfl) rfl B))))) ?_
      by_cases c9 : (f_M_in v2 (1 : Int32) (999999 : Int32)) = 0
      · replace hyp := (if_pos c9).symm.trans hyp
        refine rt_st (pc1 := 48) (fun _ _ B => go_if_eq_t 46 d_M_days_34 rfl c9 (go_ldc (v := (-1000001 : Int32)) d_M_days_46 w1076 B)) ?_
        exact rt_eqW Value.int hyp (rt_int d_M_days_48 rfl)
      · replace hyp := (if_neg c9).symm.trans hyp
        refine rt_st (pc1 := 43) (fun _ _ B => go_if_eq_f d_M_days_34 rfl c9 (go_iload_n 3 d_M_days_37 rfl (go_iconst (v := (0 : Int32)) d_M_days_38 (by decide) (go_iconst (v := (1 : Int32)) d_M_days_39 (by decide) (go_callS1 (st := []) [.int v3, .int (0 : Int32), .int (1 : Int32)] (t_M_in v3 (0 : Int32) (1 : Int32) h1) mm_M_in (by decide) d_M_days_40 w1073 w1074 rfl (Nat.le_of_ble_eq_true rfl) rfl B))))) ?_
        by_cases c10 : (f_M_in v3 (0 : Int32) (1 : Int32)) = 0
        · replace hyp := (if_pos c10).symm.trans hyp
          refine rt_st (pc1 := 48) (fun _ _ B => go_if_ne_f d_M_days_43 rfl c10 (go_ldc (v := (-1000001 : Int32)) d_M_days_46 w1076 B)) ?_
          exact rt_eqW Value.int hyp (rt_int d_M_days_48 rfl)
        · replace hyp := (if_neg c10).symm.trans hyp
          obtain ⟨x11, e12, hyp⟩ := Option.bind_eq_some_iff.mp hyp
          obtain ⟨x13, e14, hyp⟩ := Option.bind_eq_some_iff.mp hyp
          obtain ⟨h15, e16, hyp⟩ := Option.bind_eq_some_iff.mp hyp
          refine rt_st (pc1 := 70) (fun _ _ B => go_if_ne_t 49 d_M_days_43 rfl c10 (go_aload_n 0 d_M_days_49 rfl (go_gfr d_M_days_50 fd_11_15 w1004 e12 (go_aload_n 0 d_M_days_53 rfl (go_gfr d_M_days_54 fd_11_16 w1005 e14 (go_callS0 (st := []) [va_rf x11, va_rf x13] (t_M_copies F x11 x13 h1 _ e16) mm_M_copies (by decide) d_M_days_57 w1153 w1154 rfl (Nat.le_of_ble_eq_true rfl) rfl (go_iload_n 2 d_M_days_60 rfl (go_i2l d_M_days_61 (go_lstore (lv1 := [(4, .long (Int32.toInt64 v2)), (0, va_rf v0), (1, .int v1), (2, .int v2), (3, .int v3)]) d_M_days_62 (by decide) rfl (go_iconst (v := (0 : Int32)) d_M_days_64 (by decide) (go_istore (lv1 := [(6, .int (0 : Int32)), (4, .long (Int32.toInt64 v2)), (0, va_rf v0), (1, .int v1), (2, .int v2), (3, .int v3)]) d_M_days_65 (by decide) rfl (go_iconst (v := (0 : Int32)) d_M_days_67 (by decide) (go_istore (lv1 := [(7, .int (0 : Int32)), (6, .int (0 : Int32)), (4, .long (Int32.toInt64 v2)), (0, va_rf v0), (1, .int v1), (2, .int v2), (3, .int v3)]) d_M_days_68 (by decide) rfl B))))))))))))) ?_
          refine rt_sub [3, 4, 6, 2, 1, 0] (lv1 := [(0, va_rf v0), (1, .int v1), (3, .int v3), (4, .long (Int32.toInt64 v2)), (6, .int (0 : Int32)), (7, .int (0 : Int32))]) rfl ?_
          exact p_M_days_70 F F _ _ _ _ _ _ _ r hyp
/-! WideTurnModel.image(I)I -/
def b_M_image_31 (F : Nat) : Nat → (Option Nat) → (Int32) → (Int32) → (MH) → (Option (Int32 × MH))
  | 0 => fun _ _ _ _ => none
  | n + 1 => fun v0 v1 v2 h => 
    if (42 : Int32) ≤ v2 then
      Option.bind (gfr h v0 [11] 20) fun x2 =>
      Option.bind (ast h x2 1 v1 (1 : Int32)) fun h4 =>
      some ((1 : Int32), h4)
    else
      Option.bind (gfr h v0 [11] 19) fun x6 =>
      Option.bind (gfr h v0 [11] 15) fun x8 =>
      Option.bind (ald h x8 0 v2) fun x10 =>
      Option.bind (ast h x6 0 (((42 : Int32) * v1) + v2) x10) fun h12 =>
      (b_M_image_31 F n) v0 v1 (v2 + (1 : Int32)) h12
def f_M_image (F : Nat) (v0 : Option Nat) (v1 : Int32) (h : MH) : Option (Int32 × MH) :=
  Option.bind (pfv h v0 [11] 0 (.int (0 : Int32))) fun h1 =>
  if (f_M_in v1 (0 : Int32) (1 : Int32)) = 0 then
    some ((-1000001 : Int32), h1)
  else
    Option.bind (gfr h1 v0 [11] 15) fun x4 =>
    Option.bind (ald h1 x4 0 (0 : Int32)) fun x6 =>
    if x6 = 0 then
      some ((-1000002 : Int32), h1)
    else
      b_M_image_31 F F v0 v1 (0 : Int32) h1
set_option maxHeartbeats 4000000 in
set_option maxRecDepth 200000 in
theorem p_M_image_31 (F : Nat) {h0 : MH} : ∀ (n : Nat) (v0 : Option Nat) (v1 : Int32) (v2 : Int32) (h : MH) (r : (Int32 × MH)), b_M_image_31 F  n v0 v1 v2 h = some r → Rt mi_M_image 2 h0 31 [(0, va_rf v0), (1, .int v1), (2, .int v2)] [] h (some (.int r.1)) r.2 := by
  intro n
  induction n with
  | zero =>
    intro v0 v1 v2 h r hyp
    cases hyp
  | succ n ih =>
    intro v0 v1 v2 h r hyp
    unfold b_M_image_31 at hyp
    refine rt_st (pc1 := 34) (fun _ _ B => go_iload_n 2 d_M_image_31 rfl (go_bipush (v := (42 : Int32)) d_M_image_32 (by decide) B)) ?_
    by_cases c1 : (42 : Int32) ≤ v2
    · replace hyp := (if_pos c1).symm.trans hyp
      obtain ⟨x2, e3, hyp⟩ := Option.bind_eq_some_iff.mp hyp
      obtain ⟨h4, e5, hyp⟩ := Option.bind_eq_some_iff.mp hyp
      refine rt_st (pc1 := 68) (fun _ _ B => go_icmp_ge_t 60 d_M_image_34 rfl c1 (go_aload_n 0 d_M_image_60 rfl (go_gfr d_M_image_61 fd_11_20 w1009 e3 (go_iload_n 1 d_M_image_64 rfl (go_iconst (v := (1 : Int32)) d_M_image_65 (by decide) (go_zast d_M_image_66 (by decide) e5 (go_iconst (v := (1 : Int32)) d_M_image_67 (by decide) B))))))) ?_
      exact rt_eqW Value.int hyp (rt_int d_M_image_68 rfl)
    · replace hyp := (if_neg c1).symm.trans hyp
      obtain ⟨x6, e7, hyp⟩ := Option.bind_eq_some_iff.mp hyp
      obtain ⟨x8, e9, hyp⟩ := Option.bind_eq_some_iff.mp hyp
      obtain ⟨x10, e11, hyp⟩ := Option.bind_eq_some_iff.mp hyp
      obtain ⟨h12, e13, hyp⟩ := Option.bind_eq_some_iff.mp hyp
      refine rt_st (pc1 := 31) (fun _ _ B => go_icmp_ge_f d_M_image_34 rfl c1 (go_aload_n 0 d_M_image_37 rfl (go_gfr d_M_image_38 fd_11_19 w1008 e7 (go_bipush (v := (42 : Int32)) d_M_image_41 (by decide) (go_iload_n 1 d_M_image_43 rfl (go_imul d_M_image_44 (go_iload_n 2 d_M_image_45 rfl (go_iadd d_M_image_46 (go_aload_n 0 d_M_image_47 rfl (go_gfr d_M_image_48 fd_11_15 w1004 e9 (go_iload_n 2 d_M_image_51 rfl (go_iald d_M_image_52 e11 (go_iast d_M_image_53 e13 (go_iinc (v := (v2 + (1 : Int32))) (lv1 := [(2, .int (v2 + (1 : Int32))), (0, va_rf v0), (1, .int v1)]) 2 d_M_image_54 rfl rfl (by decide) rfl (go_goto 31 d_M_image_57 rfl B))))))))))))))) ?_
      refine rt_sub [1, 2, 0] (lv1 := [(0, va_rf v0), (1, .int v1), (2, .int (v2 + (1 : Int32)))]) rfl ?_
      exact ih _ _ _ _ _ hyp
set_option maxHeartbeats 4000000 in
set_option maxRecDepth 200000 in
theorem t_M_image (F : Nat) (v0 : Option Nat) (v1 : Int32) (h : MH) (r : (Int32 × MH)) (hyp : f_M_image F v0 v1 h = some r) : Mt mi_M_image 2 [va_rf v0, .int v1] h (some (.int r.1)) r.2 := by
  refine Mt.rt (lv := [(0, va_rf v0), (1, .int v1)]) (by decide +kernel) (by simp [lv_args, mj_rfc, mj_cti, mj_ctl]) (by simp [mj_rfc, mj_cti, mj_ctl]) ?_
  unfold f_M_image at hyp
  obtain ⟨h1, e2, hyp⟩ := Option.bind_eq_some_iff.mp hyp
  refine rt_st (pc1 := 11) (fun _ _ B => go_aload_n 0 d_M_image_0 rfl (go_iconst (v := (0 : Int32)) d_M_image_1 (by decide) (go_pfi d_M_image_2 fd_11_0 w989 (fun q => by cases q) e2 (go_iload_n 1 d_M_image_5 rfl (go_iconst (v := (0 : Int32)) d_M_image_6 (by decide) (go_iconst (v := (1 : Int32)) d_M_image_7 (by decide) (go_callS1 (st := []) [.int v1, .int (0 : Int32), .int (1 : Int32)] (t_M_in v1 (0 : Int32) (1 : Int32) h1) mm_M_in (by decide) d_M_image_8 w1073 w1074 rfl (Nat.le_of_ble_eq_true rfl) rfl B))))))) ?_
  by_cases c3 : (f_M_in v1 (0 : Int32) (1 : Int32)) = 0
  · replace hyp := (if_pos c3).symm.trans hyp
    refine rt_st (pc1 := 16) (fun _ _ B => go_if_ne_f d_M_image_11 rfl c3 (go_ldc (v := (-1000001 : Int32)) d_M_image_14 w1076 B)) ?_
    exact rt_eqW Value.int hyp (rt_int d_M_image_16 rfl)
  · replace hyp := (if_neg c3).symm.trans hyp
    obtain ⟨x4, e5, hyp⟩ := Option.bind_eq_some_iff.mp hyp
    obtain ⟨x6, e7, hyp⟩ := Option.bind_eq_some_iff.mp hyp
    refine rt_st (pc1 := 23) (fun _ _ B => go_if_ne_t 17 d_M_image_11 rfl c3 (go_aload_n 0 d_M_image_17 rfl (go_gfr d_M_image_18 fd_11_15 w1004 e5 (go_iconst (v := (0 : Int32)) d_M_image_21 (by decide) (go_iald d_M_image_22 e7 B))))) ?_
    by_cases c8 : x6 = 0
    · replace hyp := (if_pos c8).symm.trans hyp
      refine rt_st (pc1 := 28) (fun _ _ B => go_if_ne_f d_M_image_23 rfl c8 (go_ldc (v := (-1000002 : Int32)) d_M_image_26 w1164 B)) ?_
      exact rt_eqW Value.int hyp (rt_int d_M_image_28 rfl)
    · replace hyp := (if_neg c8).symm.trans hyp
      refine rt_st (pc1 := 31) (fun _ _ B => go_if_ne_t 29 d_M_image_23 rfl c8 (go_iconst (v := (0 : Int32)) d_M_image_29 (by decide) (go_istore_n (lv1 := [(2, .int (0 : Int32)), (0, va_rf v0), (1, .int v1)]) d_M_image_30 (by decide) rfl B))) ?_
      refine rt_sub [1, 2, 0] (lv1 := [(0, va_rf v0), (1, .int v1), (2, .int (0 : Int32))]) rfl ?_
      exact p_M_image_31 F F _ _ _ _ r hyp
/-! WideTurnModel.restore(I)I -/
def b_M_restore_31 (F : Nat) : Nat → (Option Nat) → (Int32) → (Int32) → (MH) → (Option (Int32 × MH))
  | 0 => fun _ _ _ _ => none
  | n + 1 => fun v0 v1 v2 h => 
    if (42 : Int32) ≤ v2 then
      Option.bind (pfv h v0 [11] 18 (.int (0 : Int32))) fun h2 =>
      some ((1 : Int32), h2)
    else
      Option.bind (gfr h v0 [11] 15) fun x4 =>
      Option.bind (gfr h v0 [11] 19) fun x6 =>
      Option.bind (ald h x6 0 (((42 : Int32) * v1) + v2)) fun x8 =>
      Option.bind (ast h x4 0 v2 x8) fun h10 =>
      (b_M_restore_31 F n) v0 v1 (v2 + (1 : Int32)) h10
def f_M_restore (F : Nat) (v0 : Option Nat) (v1 : Int32) (h : MH) : Option (Int32 × MH) :=
  Option.bind (pfv h v0 [11] 0 (.int (0 : Int32))) fun h1 =>
  if (f_M_in v1 (0 : Int32) (1 : Int32)) = 0 then
    some ((-1000001 : Int32), h1)
  else
    Option.bind (gfr h1 v0 [11] 20) fun x4 =>
    Option.bind (ald h1 x4 1 v1) fun x6 =>
    if x6 = 0 then
      some ((-1000002 : Int32), h1)
    else
      b_M_restore_31 F F v0 v1 (0 : Int32) h1
set_option maxHeartbeats 4000000 in
set_option maxRecDepth 200000 in
theorem p_M_restore_31 (F : Nat) {h0 : MH} : ∀ (n : Nat) (v0 : Option Nat) (v1 : Int32) (v2 : Int32) (h : MH) (r : (Int32 × MH)), b_M_restore_31 F  n v0 v1 v2 h = some r → Rt mi_M_restore 2 h0 31 [(0, va_rf v0), (1, .int v1), (2, .int v2)] [] h (some (.int r.1)) r.2 := by
  intro n
  induction n with
  | zero =>
    intro v0 v1 v2 h r hyp
    cases hyp
  | succ n ih =>
    intro v0 v1 v2 h r hyp
    unfold b_M_restore_31 at hyp
    refine rt_st (pc1 := 34) (fun _ _ B => go_iload_n 2 d_M_restore_31 rfl (go_bipush (v := (42 : Int32)) d_M_restore_32 (by decide) B)) ?_
    by_cases c1 : (42 : Int32) ≤ v2
    · replace hyp := (if_pos c1).symm.trans hyp
      obtain ⟨h2, e3, hyp⟩ := Option.bind_eq_some_iff.mp hyp
      refine rt_st (pc1 := 66) (fun _ _ B => go_icmp_ge_t 60 d_M_restore_34 rfl c1 (go_aload_n 0 d_M_restore_60 rfl (go_iconst (v := (0 : Int32)) d_M_restore_61 (by decide) (go_pfi d_M_restore_62 fd_11_18 w1007 (fun q => by cases q) e3 (go_iconst (v := (1 : Int32)) d_M_restore_65 (by decide) B))))) ?_
      exact rt_eqW Value.int hyp (rt_int d_M_restore_66 rfl)
    · replace hyp := (if_neg c1).symm.trans hyp
      obtain ⟨x4, e5, hyp⟩ := Option.bind_eq_some_iff.mp hyp
      obtain ⟨x6, e7, hyp⟩ := Option.bind_eq_some_iff.mp hyp
      obtain ⟨x8, e9, hyp⟩ := Option.bind_eq_some_iff.mp hyp
      obtain ⟨h10, e11, hyp⟩ := Option.bind_eq_some_iff.mp hyp
      refine rt_st (pc1 := 31) (fun _ _ B => go_icmp_ge_f d_M_restore_34 rfl c1 (go_aload_n 0 d_M_restore_37 rfl (go_gfr d_M_restore_38 fd_11_15 w1004 e5 (go_iload_n 2 d_M_restore_41 rfl (go_aload_n 0 d_M_restore_42 rfl (go_gfr d_M_restore_43 fd_11_19 w1008 e7 (go_bipush (v := (42 : Int32)) d_M_restore_46 (by decide) (go_iload_n 1 d_M_restore_48 rfl (go_imul d_M_restore_49 (go_iload_n 2 d_M_restore_50 rfl (go_iadd d_M_restore_51 (go_iald d_M_restore_52 e9 (go_iast d_M_restore_53 e11 (go_iinc (v := (v2 + (1 : Int32))) (lv1 := [(2, .int (v2 + (1 : Int32))), (0, va_rf v0), (1, .int v1)]) 2 d_M_restore_54 rfl rfl (by decide) rfl (go_goto 31 d_M_restore_57 rfl B))))))))))))))) ?_
      refine rt_sub [1, 2, 0] (lv1 := [(0, va_rf v0), (1, .int v1), (2, .int (v2 + (1 : Int32)))]) rfl ?_
      exact ih _ _ _ _ _ hyp
set_option maxHeartbeats 4000000 in
set_option maxRecDepth 200000 in
theorem t_M_restore (F : Nat) (v0 : Option Nat) (v1 : Int32) (h : MH) (r : (Int32 × MH)) (hyp : f_M_restore F v0 v1 h = some r) : Mt mi_M_restore 2 [va_rf v0, .int v1] h (some (.int r.1)) r.2 := by
  refine Mt.rt (lv := [(0, va_rf v0), (1, .int v1)]) (by decide +kernel) (by simp [lv_args, mj_rfc, mj_cti, mj_ctl]) (by simp [mj_rfc, mj_cti, mj_ctl]) ?_
  unfold f_M_restore at hyp
  obtain ⟨h1, e2, hyp⟩ := Option.bind_eq_some_iff.mp hyp
  refine rt_st (pc1 := 11) (fun _ _ B => go_aload_n 0 d_M_restore_0 rfl (go_iconst (v := (0 : Int32)) d_M_restore_1 (by decide) (go_pfi d_M_restore_2 fd_11_0 w989 (fun q => by cases q) e2 (go_iload_n 1 d_M_restore_5 rfl (go_iconst (v := (0 : Int32)) d_M_restore_6 (by decide) (go_iconst (v := (1 : Int32)) d_M_restore_7 (by decide) (go_callS1 (st := []) [.int v1, .int (0 : Int32), .int (1 : Int32)] (t_M_in v1 (0 : Int32) (1 : Int32) h1) mm_M_in (by decide) d_M_restore_8 w1073 w1074 rfl (Nat.le_of_ble_eq_true rfl) rfl B))))))) ?_
  by_cases c3 : (f_M_in v1 (0 : Int32) (1 : Int32)) = 0
  · replace hyp := (if_pos c3).symm.trans hyp
    refine rt_st (pc1 := 16) (fun _ _ B => go_if_ne_f d_M_restore_11 rfl c3 (go_ldc (v := (-1000001 : Int32)) d_M_restore_14 w1076 B)) ?_
    exact rt_eqW Value.int hyp (rt_int d_M_restore_16 rfl)
  · replace hyp := (if_neg c3).symm.trans hyp
    obtain ⟨x4, e5, hyp⟩ := Option.bind_eq_some_iff.mp hyp
    obtain ⟨x6, e7, hyp⟩ := Option.bind_eq_some_iff.mp hyp
    refine rt_st (pc1 := 23) (fun _ _ B => go_if_ne_t 17 d_M_restore_11 rfl c3 (go_aload_n 0 d_M_restore_17 rfl (go_gfr d_M_restore_18 fd_11_20 w1009 e5 (go_iload_n 1 d_M_restore_21 rfl (go_zald d_M_restore_22 e7 B))))) ?_
    by_cases c8 : x6 = 0
    · replace hyp := (if_pos c8).symm.trans hyp
      refine rt_st (pc1 := 28) (fun _ _ B => go_if_ne_f d_M_restore_23 rfl c8 (go_ldc (v := (-1000002 : Int32)) d_M_restore_26 w1164 B)) ?_
      exact rt_eqW Value.int hyp (rt_int d_M_restore_28 rfl)
    · replace hyp := (if_neg c8).symm.trans hyp
      refine rt_st (pc1 := 31) (fun _ _ B => go_if_ne_t 29 d_M_restore_23 rfl c8 (go_iconst (v := (0 : Int32)) d_M_restore_29 (by decide) (go_istore_n (lv1 := [(2, .int (0 : Int32)), (0, va_rf v0), (1, .int v1)]) d_M_restore_30 (by decide) rfl B))) ?_
      refine rt_sub [1, 2, 0] (lv1 := [(0, va_rf v0), (1, .int v1), (2, .int (0 : Int32))]) rfl ?_
      exact p_M_restore_31 F F _ _ _ _ r hyp
/-! WideTurnModel.kind(I)I -/
def f_M_kind (v0 : Option Nat) (v1 : Int32) (h : MH) : Option (Int32 × MH) :=
  Option.bind (pfv h v0 [11] 0 (.int (0 : Int32))) fun h1 =>
  Option.bind (onc h1 v0 11 (f_M_isHand v0 v1 h1)) fun x3 =>
  if x3 = 0 then
    some ((-1000001 : Int32), h1)
  else
    Option.bind (gfr h1 v0 [11] 15) fun x6 =>
    Option.bind (ald h1 x6 0 ((5 : Int32) + v1)) fun x8 =>
    some (x8, h1)
set_option maxHeartbeats 4000000 in
set_option maxRecDepth 200000 in
theorem t_M_kind (v0 : Option Nat) (v1 : Int32) (h : MH) (r : (Int32 × MH)) (hyp : f_M_kind v0 v1 h = some r) : Mt mi_M_kind 3 [va_rf v0, .int v1] h (some (.int r.1)) r.2 := by
  refine Mt.rt (lv := [(0, va_rf v0), (1, .int v1)]) (by decide +kernel) (by simp [lv_args, mj_rfc, mj_cti, mj_ctl]) (by simp [mj_rfc, mj_cti, mj_ctl]) ?_
  unfold f_M_kind at hyp
  obtain ⟨h1, e2, hyp⟩ := Option.bind_eq_some_iff.mp hyp
  obtain ⟨x3, e4, hyp⟩ := Option.bind_eq_some_iff.mp hyp
  refine rt_st (pc1 := 10) (fun _ _ B => go_aload_n 0 d_M_kind_0 rfl (go_iconst (v := (0 : Int32)) d_M_kind_1 (by decide) (go_pfi d_M_kind_2 fd_11_0 w989 (fun q => by cases q) e2 (go_aload_n 0 d_M_kind_5 rfl (go_iload_n 1 d_M_kind_6 rfl (go_callV1 (q := q_11) (st := []) [.int v1] (t_M_isHand v0 v1 h1 _ (onc_spec e4).2) mm_M_isHand (by decide) d_M_kind_7 (onc_spec e4).1 rfl rfl w1169 w1171 w40 rfl (Nat.le_of_ble_eq_true rfl) rfl B)))))) ?_
  by_cases c5 : x3 = 0
  · replace hyp := (if_pos c5).symm.trans hyp
    refine rt_st (pc1 := 26) (fun _ _ B => go_if_eq_t 24 d_M_kind_10 rfl c5 (go_ldc (v := (-1000001 : Int32)) d_M_kind_24 w1076 B)) ?_
    exact rt_eqW Value.int hyp (rt_int d_M_kind_26 rfl)
  · replace hyp := (if_neg c5).symm.trans hyp
    obtain ⟨x6, e7, hyp⟩ := Option.bind_eq_some_iff.mp hyp
    obtain ⟨x8, e9, hyp⟩ := Option.bind_eq_some_iff.mp hyp
    refine rt_st (pc1 := 26) (fun _ _ B => go_if_eq_f d_M_kind_10 rfl c5 (go_aload_n 0 d_M_kind_13 rfl (go_gfr d_M_kind_14 fd_11_15 w1004 e7 (go_iconst (v := (5 : Int32)) d_M_kind_17 (by decide) (go_iload_n 1 d_M_kind_18 rfl (go_iadd d_M_kind_19 (go_iald d_M_kind_20 e9 (go_goto 26 d_M_kind_21 rfl B)))))))) ?_
    exact rt_eqW Value.int hyp (rt_int d_M_kind_26 rfl)
/-! WideTurnModel.as(II)I -/
def b_M_as_68 : (Option Nat) → (Int32) → (Int32) → (MH) → (Option (Int32 × MH)) := fun v0 v1 s0 h => 
  if s0 = 0 then
    Option.bind (onc h v0 11 (f_M_finds v0 (3 : Int32) h)) fun x2 =>
    some (x2.1, x2.2)
  else
    Option.bind (onc h v0 11 (f_M_is v0 v1 h)) fun x4 =>
    some (x4.1, x4.2)
def b_M_as_67 : (Option Nat) → (Int32) → (MH) → (Option (Int32 × MH)) := fun v0 v1 h => 
  b_M_as_68 v0 v1 (0 : Int32) h
def b_M_as_63 : (Option Nat) → (Int32) → (MH) → (Option (Int32 × MH)) := fun v0 v1 h => 
  b_M_as_68 v0 v1 (1 : Int32) h
def b_M_as_53 : (Option Nat) → (Int32) → (Int32) → (Int32) → (MH) → (Option (Int32 × MH)) := fun v0 v1 v2 v3 h => 
  if v2 = (4 : Int32) then
    if v3 = (5 : Int32) then
      b_M_as_63 v0 v1 h
    else
      b_M_as_67 v0 v1 h
  else
    b_M_as_67 v0 v1 h
def f_M_as (v0 : Option Nat) (v1 : Int32) (v2 : Int32) (h : MH) : Option (Int32 × MH) :=
  Option.bind (pfv h v0 [11] 0 (.int (0 : Int32))) fun h1 =>
  Option.bind (onc h1 v0 11 (f_M_isHand v0 v1 h1)) fun x3 =>
  if x3 = 0 then
    some ((-1000001 : Int32), h1)
  else
    if (f_M_in v2 (0 : Int32) (5 : Int32)) = 0 then
      some ((-1000001 : Int32), h1)
    else
      Option.bind (gfr h1 v0 [11] 15) fun x7 =>
      Option.bind (ald h1 x7 0 ((5 : Int32) + v1)) fun x9 =>
      if v2 = 0 then
        b_M_as_63 v0 v1 h1
      else
        if v2 = x9 then
          b_M_as_63 v0 v1 h1
        else
          if v2 = (1 : Int32) then
            if x9 < (4 : Int32) then
              b_M_as_63 v0 v1 h1
            else
              b_M_as_53 v0 v1 v2 x9 h1
          else
            b_M_as_53 v0 v1 v2 x9 h1
set_option maxHeartbeats 4000000 in
set_option maxRecDepth 200000 in
theorem p_M_as_68 {h0 : MH} (v0 : Option Nat) (v1 : Int32) (s0 : Int32) (h : MH) (r : (Int32 × MH)) : b_M_as_68  v0 v1 s0 h = some r → Rt mi_M_as 3 h0 68 [(0, va_rf v0), (1, .int v1)] [.int s0] h (some (.int r.1)) r.2 := by
  intro hyp
  unfold b_M_as_68 at hyp
  refine rt_st (pc1 := 72) (fun _ _ B => go_istore (lv1 := [(4, .int s0), (0, va_rf v0), (1, .int v1)]) d_M_as_68 (by decide) rfl (go_iload 0 d_M_as_70 rfl B)) ?_
  by_cases c1 : s0 = 0
  · replace hyp := (if_pos c1).symm.trans hyp
    obtain ⟨x2, e3, hyp⟩ := Option.bind_eq_some_iff.mp hyp
    refine rt_st (pc1 := 88) (fun _ _ B => go_if_eq_t 83 d_M_as_72 rfl c1 (go_aload_n 1 d_M_as_83 rfl (go_iconst (v := (3 : Int32)) d_M_as_84 (by decide) (go_callV1 (q := q_11) (st := []) [.int (3 : Int32)] (t_M_finds v0 (3 : Int32) h _ (onc_spec e3).2) mm_M_finds (by decide) d_M_as_85 (onc_spec e3).1 rfl rfl w1077 w1079 w29 rfl (Nat.le_of_ble_eq_true rfl) rfl B)))) ?_
    exact rt_eqW Value.int hyp (rt_int d_M_as_88 rfl)
  · replace hyp := (if_neg c1).symm.trans hyp
    obtain ⟨x4, e5, hyp⟩ := Option.bind_eq_some_iff.mp hyp
    refine rt_st (pc1 := 88) (fun _ _ B => go_if_eq_f d_M_as_72 rfl c1 (go_aload_n 1 d_M_as_75 rfl (go_iload_n 2 d_M_as_76 rfl (go_callV1 (q := q_11) (st := []) [.int v1] (t_M_is v0 v1 h _ (onc_spec e5).2) mm_M_is (by decide) d_M_as_77 (onc_spec e5).1 rfl rfl w1082 w1084 w30 rfl (Nat.le_of_ble_eq_true rfl) rfl (go_goto 88 d_M_as_80 rfl B))))) ?_
    exact rt_eqW Value.int hyp (rt_int d_M_as_88 rfl)
set_option maxHeartbeats 4000000 in
set_option maxRecDepth 200000 in
theorem p_M_as_67 {h0 : MH} (v0 : Option Nat) (v1 : Int32) (h : MH) (r : (Int32 × MH)) : b_M_as_67  v0 v1 h = some r → Rt mi_M_as 3 h0 67 [(0, va_rf v0), (1, .int v1)] [] h (some (.int r.1)) r.2 := by
  intro hyp
  unfold b_M_as_67 at hyp
  refine rt_st (pc1 := 68) (fun _ _ B => go_iconst (v := (0 : Int32)) d_M_as_67 (by decide) B) ?_
  exact p_M_as_68 _ _ _ _ r hyp
set_option maxHeartbeats 4000000 in
set_option maxRecDepth 200000 in
theorem p_M_as_63 {h0 : MH} (v0 : Option Nat) (v1 : Int32) (h : MH) (r : (Int32 × MH)) : b_M_as_63  v0 v1 h = some r → Rt mi_M_as 3 h0 63 [(0, va_rf v0), (1, .int v1)] [] h (some (.int r.1)) r.2 := by
  intro hyp
  unfold b_M_as_63 at hyp
  refine rt_st (pc1 := 68) (fun _ _ B => go_iconst (v := (1 : Int32)) d_M_as_63 (by decide) (go_goto 68 d_M_as_64 rfl B)) ?_
  exact p_M_as_68 _ _ _ _ r hyp
set_option maxHeartbeats 4000000 in
set_option maxRecDepth 200000 in
theorem p_M_as_53 {h0 : MH} (v0 : Option Nat) (v1 : Int32) (v2 : Int32) (v3 : Int32) (h : MH) (r : (Int32 × MH)) : b_M_as_53  v0 v1 v2 v3 h = some r → Rt mi_M_as 3 h0 53 [(0, va_rf v0), (1, .int v1), (2, .int v2), (3, .int v3)] [] h (some (.int r.1)) r.2 := by
  intro hyp
  unfold b_M_as_53 at hyp
  refine rt_st (pc1 := 55) (fun _ _ B => go_iload_n 2 d_M_as_53 rfl (go_iconst (v := (4 : Int32)) d_M_as_54 (by decide) B)) ?_
  by_cases c1 : v2 = (4 : Int32)
  · replace hyp := (if_pos c1).symm.trans hyp
    refine rt_st (pc1 := 60) (fun _ _ B => go_icmp_ne_f d_M_as_55 rfl c1 (go_iload_n 3 d_M_as_58 rfl (go_iconst (v := (5 : Int32)) d_M_as_59 (by decide) B))) ?_
    by_cases c2 : v3 = (5 : Int32)
    · replace hyp := (if_pos c2).symm.trans hyp
      refine rt_st (pc1 := 63) (fun _ _ B => go_icmp_ne_f d_M_as_60 rfl c2 B) ?_
      refine rt_sub [0, 1] (lv1 := [(0, va_rf v0), (1, .int v1)]) rfl ?_
      exact p_M_as_63 _ _ _ r hyp
    · replace hyp := (if_neg c2).symm.trans hyp
      refine rt_st (pc1 := 67) (fun _ _ B => go_icmp_ne_t 67 d_M_as_60 rfl c2 B) ?_
      refine rt_sub [0, 1] (lv1 := [(0, va_rf v0), (1, .int v1)]) rfl ?_
      exact p_M_as_67 _ _ _ r hyp
  · replace hyp := (if_neg c1).symm.trans hyp
    refine rt_st (pc1 := 67) (fun _ _ B => go_icmp_ne_t 67 d_M_as_55 rfl c1 B) ?_
    refine rt_sub [0, 1] (lv1 := [(0, va_rf v0), (1, .int v1)]) rfl ?_
    exact p_M_as_67 _ _ _ r hyp
set_option maxHeartbeats 4000000 in
set_option maxRecDepth 200000 in
theorem t_M_as (v0 : Option Nat) (v1 : Int32) (v2 : Int32) (h : MH) (r : (Int32 × MH)) (hyp : f_M_as v0 v1 v2 h = some r) : Mt mi_M_as 3 [va_rf v0, .int v1, .int v2] h (some (.int r.1)) r.2 := by
  refine Mt.rt (lv := [(0, va_rf v0), (1, .int v1), (2, .int v2)]) (by decide +kernel) (by simp [lv_args, mj_rfc, mj_cti, mj_ctl]) (by simp [mj_rfc, mj_cti, mj_ctl]) ?_
  unfold f_M_as at hyp
  obtain ⟨h1, e2, hyp⟩ := Option.bind_eq_some_iff.mp hyp
  obtain ⟨x3, e4, hyp⟩ := Option.bind_eq_some_iff.mp hyp
  refine rt_st (pc1 := 10) (fun _ _ B => go_aload_n 0 d_M_as_0 rfl (go_iconst (v := (0 : Int32)) d_M_as_1 (by decide) (go_pfi d_M_as_2 fd_11_0 w989 (fun q => by cases q) e2 (go_aload_n 0 d_M_as_5 rfl (go_iload_n 1 d_M_as_6 rfl (go_callV1 (q := q_11) (st := []) [.int v1] (t_M_isHand v0 v1 h1 _ (onc_spec e4).2) mm_M_isHand (by decide) d_M_as_7 (onc_spec e4).1 rfl rfl w1169 w1171 w40 rfl (Nat.le_of_ble_eq_true rfl) rfl B)))))) ?_
  by_cases c5 : x3 = 0
  · replace hyp := (if_pos c5).symm.trans hyp
    refine rt_st (pc1 := 24) (fun _ _ B => go_if_eq_t 22 d_M_as_10 rfl c5 (go_ldc (v := (-1000001 : Int32)) d_M_as_22 w1076 B)) ?_
    exact rt_eqW Value.int hyp (rt_int d_M_as_24 rfl)
  · replace hyp := (if_neg c5).symm.trans hyp
    refine rt_st (pc1 := 19) (fun _ _ B => go_if_eq_f d_M_as_10 rfl c5 (go_iload_n 2 d_M_as_13 rfl (go_iconst (v := (0 : Int32)) d_M_as_14 (by decide) (go_iconst (v := (5 : Int32)) d_M_as_15 (by decide) (go_callS1 (st := []) [.int v2, .int (0 : Int32), .int (5 : Int32)] (t_M_in v2 (0 : Int32) (5 : Int32) h1) mm_M_in (by decide) d_M_as_16 w1073 w1074 rfl (Nat.le_of_ble_eq_true rfl) rfl B))))) ?_
    by_cases c6 : (f_M_in v2 (0 : Int32) (5 : Int32)) = 0
    · replace hyp := (if_pos c6).symm.trans hyp
      refine rt_st (pc1 := 24) (fun _ _ B => go_if_ne_f d_M_as_19 rfl c6 (go_ldc (v := (-1000001 : Int32)) d_M_as_22 w1076 B)) ?_
      exact rt_eqW Value.int hyp (rt_int d_M_as_24 rfl)
    · replace hyp := (if_neg c6).symm.trans hyp
      obtain ⟨x7, e8, hyp⟩ := Option.bind_eq_some_iff.mp hyp
      obtain ⟨x9, e10, hyp⟩ := Option.bind_eq_some_iff.mp hyp
      refine rt_st (pc1 := 35) (fun _ _ B => go_if_ne_t 25 d_M_as_19 rfl c6 (go_aload_n 0 d_M_as_25 rfl (go_gfr d_M_as_26 fd_11_15 w1004 e8 (go_iconst (v := (5 : Int32)) d_M_as_29 (by decide) (go_iload_n 1 d_M_as_30 rfl (go_iadd d_M_as_31 (go_iald d_M_as_32 e10 (go_istore_n (lv1 := [(3, .int x9), (0, va_rf v0), (1, .int v1), (2, .int v2)]) d_M_as_33 (by decide) rfl (go_iload_n 3 d_M_as_34 rfl B))))))))) ?_
      by_cases c11 : v2 = 0
      · replace hyp := (if_pos c11).symm.trans hyp
        refine rt_st (pc1 := 63) (fun _ _ B => go_if_eq_t 63 d_M_as_35 rfl c11 B) ?_
        refine rt_sub [1, 2] (lv1 := [(0, va_rf v0), (1, .int v1)]) rfl ?_
        exact p_M_as_63 _ _ _ r hyp
      · replace hyp := (if_neg c11).symm.trans hyp
        refine rt_st (pc1 := 40) (fun _ _ B => go_if_eq_f d_M_as_35 rfl c11 (go_iload_n 3 d_M_as_38 rfl (go_iload_n 0 d_M_as_39 rfl B))) ?_
        by_cases c12 : v2 = x9
        · replace hyp := (if_pos c12).symm.trans hyp
          refine rt_st (pc1 := 63) (fun _ _ B => go_icmp_eq_t 63 d_M_as_40 rfl c12 B) ?_
          refine rt_sub [1, 2] (lv1 := [(0, va_rf v0), (1, .int v1)]) rfl ?_
          exact p_M_as_63 _ _ _ r hyp
        · replace hyp := (if_neg c12).symm.trans hyp
          refine rt_st (pc1 := 45) (fun _ _ B => go_icmp_eq_f d_M_as_40 rfl c12 (go_iload_n 3 d_M_as_43 rfl (go_iconst (v := (1 : Int32)) d_M_as_44 (by decide) B))) ?_
          by_cases c13 : v2 = (1 : Int32)
          · replace hyp := (if_pos c13).symm.trans hyp
            refine rt_st (pc1 := 50) (fun _ _ B => go_icmp_ne_f d_M_as_45 rfl c13 (go_iload_n 0 d_M_as_48 rfl (go_iconst (v := (4 : Int32)) d_M_as_49 (by decide) B))) ?_
            by_cases c14 : x9 < (4 : Int32)
            · replace hyp := (if_pos c14).symm.trans hyp
              refine rt_st (pc1 := 63) (fun _ _ B => go_icmp_lt_t 63 d_M_as_50 rfl c14 B) ?_
              refine rt_sub [1, 2] (lv1 := [(0, va_rf v0), (1, .int v1)]) rfl ?_
              exact p_M_as_63 _ _ _ r hyp
            · replace hyp := (if_neg c14).symm.trans hyp
              refine rt_st (pc1 := 53) (fun _ _ B => go_icmp_lt_f d_M_as_50 rfl c14 B) ?_
              refine rt_sub [1, 2, 3, 0] (lv1 := [(0, va_rf v0), (1, .int v1), (2, .int v2), (3, .int x9)]) rfl ?_
              exact p_M_as_53 _ _ _ _ _ r hyp
          · replace hyp := (if_neg c13).symm.trans hyp
            refine rt_st (pc1 := 53) (fun _ _ B => go_icmp_ne_t 53 d_M_as_45 rfl c13 B) ?_
            refine rt_sub [1, 2, 3, 0] (lv1 := [(0, va_rf v0), (1, .int v1), (2, .int v2), (3, .int x9)]) rfl ?_
            exact p_M_as_53 _ _ _ _ _ r hyp
/-! WideTurnModel.leaves(I)V -/
def f_M_leaves (v0 : Option Nat) (v1 : Int32) (h : MH) : Option MH :=
  Option.bind (gfi h v0 [11] 22) fun x1 =>
  if (16 : Int32) ≤ x1 then
    some h
  else
    Option.bind (gfr h v0 [11] 21) fun x4 =>
    Option.bind (gfi h v0 [11] 22) fun x6 =>
    Option.bind (ast h x4 0 x6 v1) fun h8 =>
    Option.bind (gfi h8 v0 [11] 22) fun x10 =>
    Option.bind (pfv h8 v0 [11] 22 (.int (x10 + (1 : Int32)))) fun h12 =>
    some h12
set_option maxHeartbeats 4000000 in
set_option maxRecDepth 200000 in
theorem t_M_leaves (v0 : Option Nat) (v1 : Int32) (h : MH) (r : MH) (hyp : f_M_leaves v0 v1 h = some r) : Mt mi_M_leaves 1 [va_rf v0, .int v1] h none r := by
  refine Mt.rt (lv := [(0, va_rf v0), (1, .int v1)]) (by decide +kernel) (by simp [lv_args, mj_rfc, mj_cti, mj_ctl]) (by simp [mj_rfc, mj_cti, mj_ctl]) ?_
  unfold f_M_leaves at hyp
  obtain ⟨x1, e2, hyp⟩ := Option.bind_eq_some_iff.mp hyp
  refine rt_st (pc1 := 6) (fun _ _ B => go_aload_n 0 d_M_leaves_0 rfl (go_gfi d_M_leaves_1 fd_11_22 w1011 e2 (go_bipush (v := (16 : Int32)) d_M_leaves_4 (by decide) B))) ?_
  by_cases c3 : (16 : Int32) ≤ x1
  · replace hyp := (if_pos c3).symm.trans hyp
    refine rt_st (pc1 := 29) (fun _ _ B => go_icmp_ge_t 29 d_M_leaves_6 rfl c3 B) ?_
    exact rt_eq0 hyp (rt_void d_M_leaves_29 rfl)
  · replace hyp := (if_neg c3).symm.trans hyp
    obtain ⟨x4, e5, hyp⟩ := Option.bind_eq_some_iff.mp hyp
    obtain ⟨x6, e7, hyp⟩ := Option.bind_eq_some_iff.mp hyp
    obtain ⟨h8, e9, hyp⟩ := Option.bind_eq_some_iff.mp hyp
    obtain ⟨x10, e11, hyp⟩ := Option.bind_eq_some_iff.mp hyp
    obtain ⟨h12, e13, hyp⟩ := Option.bind_eq_some_iff.mp hyp
    refine rt_st (pc1 := 29) (fun _ _ B => go_icmp_ge_f d_M_leaves_6 rfl c3 (go_aload_n 0 d_M_leaves_9 rfl (go_gfr d_M_leaves_10 fd_11_21 w1010 e5 (go_aload_n 0 d_M_leaves_13 rfl (go_gfi d_M_leaves_14 fd_11_22 w1011 e7 (go_iload_n 1 d_M_leaves_17 rfl (go_iast d_M_leaves_18 e9 (go_aload_n 0 d_M_leaves_19 rfl (go_dup d_M_leaves_20 (mj_rfc _) (go_gfi d_M_leaves_21 fd_11_22 w1011 e11 (go_iconst (v := (1 : Int32)) d_M_leaves_24 (by decide) (go_iadd d_M_leaves_25 (go_pfi d_M_leaves_26 fd_11_22 w1011 (fun q => by cases q) e13 B))))))))))))) ?_
    exact rt_eq0 hyp (rt_void d_M_leaves_29 rfl)
/-! WideTurnModel.plainMark(I)I -/
def b_M_plainMark_31 : (Option Nat) → (Int32) → (Int32) → (MH) → (Option (Int32 × MH)) := fun v0 v1 v2 h => 
  Option.bind (onc h v0 11 (f_M_leaves v0 (21 : Int32) h)) fun h1 =>
  Option.bind (onc h1 v0 11 (f_M_leaves v0 (20 : Int32) h1)) fun h3 =>
  Option.bind (gfr h3 v0 [11] 15) fun x5 =>
  Option.bind (ald h3 x5 0 (15 : Int32)) fun x7 =>
  if v2 = (2 : Int32) then
    some (((2 : Int32) * (v1 + x7)), h3)
  else
    if v2 = (3 : Int32) then
      some (((v1 + x7) - (1000 : Int32)), h3)
    else
      some ((v1 + x7), h3)
def b_M_plainMark_20 : (Option Nat) → (Int32) → (Int32) → (MH) → (Option (Int32 × MH)) := fun v0 v1 v2 h => 
  if v2 = (3 : Int32) then
    Option.bind (onc h v0 11 (f_M_leaves v0 (22 : Int32) h)) fun h2 =>
    b_M_plainMark_31 v0 v1 v2 h2
  else
    b_M_plainMark_31 v0 v1 v2 h
def f_M_plainMark (v0 : Option Nat) (v1 : Int32) (h : MH) : Option (Int32 × MH) :=
  Option.bind (gfr h v0 [11] 15) fun x1 =>
  Option.bind (ald h x1 0 ((5 : Int32) + v1)) fun x3 =>
  if x3 = (2 : Int32) then
    Option.bind (onc h v0 11 (f_M_leaves v0 (24 : Int32) h)) fun h6 =>
    b_M_plainMark_20 v0 v1 x3 h6
  else
    b_M_plainMark_20 v0 v1 x3 h
set_option maxHeartbeats 4000000 in
set_option maxRecDepth 200000 in
theorem p_M_plainMark_31 {h0 : MH} (v0 : Option Nat) (v1 : Int32) (v2 : Int32) (h : MH) (r : (Int32 × MH)) : b_M_plainMark_31  v0 v1 v2 h = some r → Rt mi_M_plainMark 2 h0 31 [(0, va_rf v0), (1, .int v1), (2, .int v2)] [] h (some (.int r.1)) r.2 := by
  intro hyp
  unfold b_M_plainMark_31 at hyp
  obtain ⟨h1, e2, hyp⟩ := Option.bind_eq_some_iff.mp hyp
  obtain ⟨h3, e4, hyp⟩ := Option.bind_eq_some_iff.mp hyp
  obtain ⟨x5, e6, hyp⟩ := Option.bind_eq_some_iff.mp hyp
  obtain ⟨x7, e8, hyp⟩ := Option.bind_eq_some_iff.mp hyp
  refine rt_st (pc1 := 55) (fun _ _ B => go_aload_n 0 d_M_plainMark_31 rfl (go_bipush (v := (21 : Int32)) d_M_plainMark_32 (by decide) (go_callV0 (q := q_11) (st := []) [.int (21 : Int32)] (t_M_leaves v0 (21 : Int32) h _ (onc_spec e2).2) mm_M_leaves (by decide) d_M_plainMark_34 (onc_spec e2).1 rfl rfl w1353 w1355 w49 rfl (Nat.le_of_ble_eq_true rfl) rfl (go_aload_n 0 d_M_plainMark_37 rfl (go_bipush (v := (20 : Int32)) d_M_plainMark_38 (by decide) (go_callV0 (q := q_11) (st := []) [.int (20 : Int32)] (t_M_leaves v0 (20 : Int32) h1 _ (onc_spec e4).2) mm_M_leaves (by decide) d_M_plainMark_40 (onc_spec e4).1 rfl rfl w1353 w1355 w49 rfl (Nat.le_of_ble_eq_true rfl) rfl (go_iload_n 1 d_M_plainMark_43 rfl (go_aload_n 0 d_M_plainMark_44 rfl (go_gfr d_M_plainMark_45 fd_11_15 w1004 e6 (go_bipush (v := (15 : Int32)) d_M_plainMark_48 (by decide) (go_iald d_M_plainMark_50 e8 (go_iadd d_M_plainMark_51 (go_istore_n (lv1 := [(3, .int (v1 + x7)), (0, va_rf v0), (1, .int v1), (2, .int v2)]) d_M_plainMark_52 (by decide) rfl (go_iload_n 3 d_M_plainMark_53 rfl (go_iconst (v := (2 : Int32)) d_M_plainMark_54 (by decide) B))))))))))))))) ?_
  by_cases c9 : v2 = (2 : Int32)
  · replace hyp := (if_pos c9).symm.trans hyp
    refine rt_st (pc1 := 78) (fun _ _ B => go_icmp_ne_f d_M_plainMark_55 rfl c9 (go_iconst (v := (2 : Int32)) d_M_plainMark_58 (by decide) (go_iload_n 0 d_M_plainMark_59 rfl (go_imul d_M_plainMark_60 (go_goto 78 d_M_plainMark_61 rfl B))))) ?_
    exact rt_eqW Value.int hyp (rt_int d_M_plainMark_78 rfl)
  · replace hyp := (if_neg c9).symm.trans hyp
    refine rt_st (pc1 := 66) (fun _ _ B => go_icmp_ne_t 64 d_M_plainMark_55 rfl c9 (go_iload_n 3 d_M_plainMark_64 rfl (go_iconst (v := (3 : Int32)) d_M_plainMark_65 (by decide) B))) ?_
    by_cases c10 : v2 = (3 : Int32)
    · replace hyp := (if_pos c10).symm.trans hyp
      refine rt_st (pc1 := 78) (fun _ _ B => go_icmp_ne_f d_M_plainMark_66 rfl c10 (go_iload_n 0 d_M_plainMark_69 rfl (go_sipush (v := (1000 : Int32)) d_M_plainMark_70 (by decide) (go_isub d_M_plainMark_73 (go_goto 78 d_M_plainMark_74 rfl B))))) ?_
      exact rt_eqW Value.int hyp (rt_int d_M_plainMark_78 rfl)
    · replace hyp := (if_neg c10).symm.trans hyp
      refine rt_st (pc1 := 78) (fun _ _ B => go_icmp_ne_t 77 d_M_plainMark_66 rfl c10 (go_iload_n 0 d_M_plainMark_77 rfl B)) ?_
      exact rt_eqW Value.int hyp (rt_int d_M_plainMark_78 rfl)
set_option maxHeartbeats 4000000 in
set_option maxRecDepth 200000 in
theorem p_M_plainMark_20 {h0 : MH} (v0 : Option Nat) (v1 : Int32) (v2 : Int32) (h : MH) (r : (Int32 × MH)) : b_M_plainMark_20  v0 v1 v2 h = some r → Rt mi_M_plainMark 2 h0 20 [(0, va_rf v0), (1, .int v1), (2, .int v2)] [] h (some (.int r.1)) r.2 := by
  intro hyp
  unfold b_M_plainMark_20 at hyp
  refine rt_st (pc1 := 22) (fun _ _ B => go_iload_n 2 d_M_plainMark_20 rfl (go_iconst (v := (3 : Int32)) d_M_plainMark_21 (by decide) B)) ?_
  by_cases c1 : v2 = (3 : Int32)
  · replace hyp := (if_pos c1).symm.trans hyp
    obtain ⟨h2, e3, hyp⟩ := Option.bind_eq_some_iff.mp hyp
    refine rt_st (pc1 := 31) (fun _ _ B => go_icmp_ne_f d_M_plainMark_22 rfl c1 (go_aload_n 0 d_M_plainMark_25 rfl (go_bipush (v := (22 : Int32)) d_M_plainMark_26 (by decide) (go_callV0 (q := q_11) (st := []) [.int (22 : Int32)] (t_M_leaves v0 (22 : Int32) h _ (onc_spec e3).2) mm_M_leaves (by decide) d_M_plainMark_28 (onc_spec e3).1 rfl rfl w1353 w1355 w49 rfl (Nat.le_of_ble_eq_true rfl) rfl B)))) ?_
    exact p_M_plainMark_31 _ _ _ _ r hyp
  · replace hyp := (if_neg c1).symm.trans hyp
    refine rt_st (pc1 := 31) (fun _ _ B => go_icmp_ne_t 31 d_M_plainMark_22 rfl c1 B) ?_
    exact p_M_plainMark_31 _ _ _ _ r hyp
set_option maxHeartbeats 4000000 in
set_option maxRecDepth 200000 in
theorem t_M_plainMark (v0 : Option Nat) (v1 : Int32) (h : MH) (r : (Int32 × MH)) (hyp : f_M_plainMark v0 v1 h = some r) : Mt mi_M_plainMark 2 [va_rf v0, .int v1] h (some (.int r.1)) r.2 := by
  refine Mt.rt (lv := [(0, va_rf v0), (1, .int v1)]) (by decide +kernel) (by simp [lv_args, mj_rfc, mj_cti, mj_ctl]) (by simp [mj_rfc, mj_cti, mj_ctl]) ?_
  unfold f_M_plainMark at hyp
  obtain ⟨x1, e2, hyp⟩ := Option.bind_eq_some_iff.mp hyp
  obtain ⟨x3, e4, hyp⟩ := Option.bind_eq_some_iff.mp hyp
  refine rt_st (pc1 := 11) (fun _ _ B => go_aload_n 0 d_M_plainMark_0 rfl (go_gfr d_M_plainMark_1 fd_11_15 w1004 e2 (go_iconst (v := (5 : Int32)) d_M_plainMark_4 (by decide) (go_iload_n 1 d_M_plainMark_5 rfl (go_iadd d_M_plainMark_6 (go_iald d_M_plainMark_7 e4 (go_istore_n (lv1 := [(2, .int x3), (0, va_rf v0), (1, .int v1)]) d_M_plainMark_8 (by decide) rfl (go_iload_n 0 d_M_plainMark_9 rfl (go_iconst (v := (2 : Int32)) d_M_plainMark_10 (by decide) B))))))))) ?_
  by_cases c5 : x3 = (2 : Int32)
  · replace hyp := (if_pos c5).symm.trans hyp
    obtain ⟨h6, e7, hyp⟩ := Option.bind_eq_some_iff.mp hyp
    refine rt_st (pc1 := 20) (fun _ _ B => go_icmp_ne_f d_M_plainMark_11 rfl c5 (go_aload_n 1 d_M_plainMark_14 rfl (go_bipush (v := (24 : Int32)) d_M_plainMark_15 (by decide) (go_callV0 (q := q_11) (st := []) [.int (24 : Int32)] (t_M_leaves v0 (24 : Int32) h _ (onc_spec e7).2) mm_M_leaves (by decide) d_M_plainMark_17 (onc_spec e7).1 rfl rfl w1353 w1355 w49 rfl (Nat.le_of_ble_eq_true rfl) rfl B)))) ?_
    refine rt_sub [1, 2, 0] (lv1 := [(0, va_rf v0), (1, .int v1), (2, .int x3)]) rfl ?_
    exact p_M_plainMark_20 _ _ _ _ r hyp
  · replace hyp := (if_neg c5).symm.trans hyp
    refine rt_st (pc1 := 20) (fun _ _ B => go_icmp_ne_t 20 d_M_plainMark_11 rfl c5 B) ?_
    refine rt_sub [1, 2, 0] (lv1 := [(0, va_rf v0), (1, .int v1), (2, .int x3)]) rfl ?_
    exact p_M_plainMark_20 _ _ _ _ r hyp
/-! WideTurnModel.sizeOf(I)I -/
def b_M_sizeOf_74 : (Option Nat) → (Int32) → (Int32) → (MH) → (Option (Int32 × MH)) := fun v0 v1 v2 h => 
  Option.bind (onc h v0 11 (f_M_leaves v0 (11 : Int32) h)) fun h1 =>
  Option.bind (onc h1 v0 11 (f_M_leaves v0 (10 : Int32) h1)) fun h3 =>
  Option.bind (gfr h3 v0 [11] 15) fun x5 =>
  Option.bind (ald h3 x5 0 ((9 : Int32) + v1)) fun x7 =>
  Option.bind (onc h3 v0 11 (f_M_plainMark v0 v1 h3)) fun x9 =>
  if v2 = (2 : Int32) then
    some ((-(x7 + x9.1)), x9.2)
  else
    some ((x7 + x9.1), x9.2)
def b_M_sizeOf_20 : (Option Nat) → (Int32) → (Int32) → (MH) → (Option (Int32 × MH)) := fun v0 v1 v2 h => 
  if v2 < (4 : Int32) then
    if v2 = (2 : Int32) then
      Option.bind (onc h v0 11 (f_M_leaves v0 (12 : Int32) h)) fun h3 =>
      b_M_sizeOf_74 v0 v1 v2 h3
    else
      b_M_sizeOf_74 v0 v1 v2 h
  else
    Option.bind (onc h v0 11 (f_M_leaves v0 (13 : Int32) h)) fun h5 =>
    Option.bind (onc h5 v0 11 (f_M_leaves v0 (10 : Int32) h5)) fun h7 =>
    Option.bind (gfr h7 v0 [11] 15) fun x9 =>
    Option.bind (ald h7 x9 0 ((9 : Int32) + v1)) fun x11 =>
    if v2 = (5 : Int32) then
      some (((2 : Int32) * (x11 - (100 : Int32))), h7)
    else
      some ((x11 - (100 : Int32)), h7)
def f_M_sizeOf (v0 : Option Nat) (v1 : Int32) (h : MH) : Option (Int32 × MH) :=
  Option.bind (gfr h v0 [11] 15) fun x1 =>
  Option.bind (ald h x1 0 ((5 : Int32) + v1)) fun x3 =>
  if x3 = (5 : Int32) then
    Option.bind (onc h v0 11 (f_M_leaves v0 (14 : Int32) h)) fun h6 =>
    b_M_sizeOf_20 v0 v1 x3 h6
  else
    b_M_sizeOf_20 v0 v1 x3 h
set_option maxHeartbeats 4000000 in
set_option maxRecDepth 200000 in
theorem p_M_sizeOf_74 {h0 : MH} (v0 : Option Nat) (v1 : Int32) (v2 : Int32) (h : MH) (r : (Int32 × MH)) : b_M_sizeOf_74  v0 v1 v2 h = some r → Rt mi_M_sizeOf 3 h0 74 [(0, va_rf v0), (1, .int v1), (2, .int v2)] [] h (some (.int r.1)) r.2 := by
  intro hyp
  unfold b_M_sizeOf_74 at hyp
  obtain ⟨h1, e2, hyp⟩ := Option.bind_eq_some_iff.mp hyp
  obtain ⟨h3, e4, hyp⟩ := Option.bind_eq_some_iff.mp hyp
  obtain ⟨x5, e6, hyp⟩ := Option.bind_eq_some_iff.mp hyp
  obtain ⟨x7, e8, hyp⟩ := Option.bind_eq_some_iff.mp hyp
  obtain ⟨x9, e10, hyp⟩ := Option.bind_eq_some_iff.mp hyp
  refine rt_st (pc1 := 104) (fun _ _ B => go_aload_n 0 d_M_sizeOf_74 rfl (go_bipush (v := (11 : Int32)) d_M_sizeOf_75 (by decide) (go_callV0 (q := q_11) (st := []) [.int (11 : Int32)] (t_M_leaves v0 (11 : Int32) h _ (onc_spec e2).2) mm_M_leaves (by decide) d_M_sizeOf_77 (onc_spec e2).1 rfl rfl w1353 w1355 w49 rfl (Nat.le_of_ble_eq_true rfl) rfl (go_aload_n 0 d_M_sizeOf_80 rfl (go_bipush (v := (10 : Int32)) d_M_sizeOf_81 (by decide) (go_callV0 (q := q_11) (st := []) [.int (10 : Int32)] (t_M_leaves v0 (10 : Int32) h1 _ (onc_spec e4).2) mm_M_leaves (by decide) d_M_sizeOf_83 (onc_spec e4).1 rfl rfl w1353 w1355 w49 rfl (Nat.le_of_ble_eq_true rfl) rfl (go_aload_n 0 d_M_sizeOf_86 rfl (go_gfr d_M_sizeOf_87 fd_11_15 w1004 e6 (go_bipush (v := (9 : Int32)) d_M_sizeOf_90 (by decide) (go_iload_n 1 d_M_sizeOf_92 rfl (go_iadd d_M_sizeOf_93 (go_iald d_M_sizeOf_94 e8 (go_aload_n 0 d_M_sizeOf_95 rfl (go_iload_n 1 d_M_sizeOf_96 rfl (go_callV1 (q := q_11) (st := [.int x7]) [.int v1] (t_M_plainMark v0 v1 h3 _ (onc_spec e10).2) mm_M_plainMark (by decide) d_M_sizeOf_97 (onc_spec e10).1 rfl rfl w1357 w1359 w50 rfl (Nat.le_of_ble_eq_true rfl) rfl (go_iadd d_M_sizeOf_100 (go_istore_n (lv1 := [(3, .int (x7 + x9.1)), (0, va_rf v0), (1, .int v1), (2, .int v2)]) d_M_sizeOf_101 (by decide) rfl (go_iload_n 3 d_M_sizeOf_102 rfl (go_iconst (v := (2 : Int32)) d_M_sizeOf_103 (by decide) B))))))))))))))))))) ?_
  by_cases c11 : v2 = (2 : Int32)
  · replace hyp := (if_pos c11).symm.trans hyp
    refine rt_st (pc1 := 113) (fun _ _ B => go_icmp_ne_f d_M_sizeOf_104 rfl c11 (go_iload_n 0 d_M_sizeOf_107 rfl (go_ineg d_M_sizeOf_108 (go_goto 113 d_M_sizeOf_109 rfl B)))) ?_
    exact rt_eqW Value.int hyp (rt_int d_M_sizeOf_113 rfl)
  · replace hyp := (if_neg c11).symm.trans hyp
    refine rt_st (pc1 := 113) (fun _ _ B => go_icmp_ne_t 112 d_M_sizeOf_104 rfl c11 (go_iload_n 0 d_M_sizeOf_112 rfl B)) ?_
    exact rt_eqW Value.int hyp (rt_int d_M_sizeOf_113 rfl)
set_option maxHeartbeats 4000000 in
set_option maxRecDepth 200000 in
theorem p_M_sizeOf_20 {h0 : MH} (v0 : Option Nat) (v1 : Int32) (v2 : Int32) (h : MH) (r : (Int32 × MH)) : b_M_sizeOf_20  v0 v1 v2 h = some r → Rt mi_M_sizeOf 3 h0 20 [(0, va_rf v0), (1, .int v1), (2, .int v2)] [] h (some (.int r.1)) r.2 := by
  intro hyp
  unfold b_M_sizeOf_20 at hyp
  refine rt_st (pc1 := 22) (fun _ _ B => go_iload_n 2 d_M_sizeOf_20 rfl (go_iconst (v := (4 : Int32)) d_M_sizeOf_21 (by decide) B)) ?_
  by_cases c1 : v2 < (4 : Int32)
  · replace hyp := (if_pos c1).symm.trans hyp
    refine rt_st (pc1 := 65) (fun _ _ B => go_icmp_lt_t 63 d_M_sizeOf_22 rfl c1 (go_iload_n 2 d_M_sizeOf_63 rfl (go_iconst (v := (2 : Int32)) d_M_sizeOf_64 (by decide) B))) ?_
    by_cases c2 : v2 = (2 : Int32)
    · replace hyp := (if_pos c2).symm.trans hyp
      obtain ⟨h3, e4, hyp⟩ := Option.bind_eq_some_iff.mp hyp
      refine rt_st (pc1 := 74) (fun _ _ B => go_icmp_ne_f d_M_sizeOf_65 rfl c2 (go_aload_n 0 d_M_sizeOf_68 rfl (go_bipush (v := (12 : Int32)) d_M_sizeOf_69 (by decide) (go_callV0 (q := q_11) (st := []) [.int (12 : Int32)] (t_M_leaves v0 (12 : Int32) h _ (onc_spec e4).2) mm_M_leaves (by decide) d_M_sizeOf_71 (onc_spec e4).1 rfl rfl w1353 w1355 w49 rfl (Nat.le_of_ble_eq_true rfl) rfl B)))) ?_
      exact p_M_sizeOf_74 _ _ _ _ r hyp
    · replace hyp := (if_neg c2).symm.trans hyp
      refine rt_st (pc1 := 74) (fun _ _ B => go_icmp_ne_t 74 d_M_sizeOf_65 rfl c2 B) ?_
      exact p_M_sizeOf_74 _ _ _ _ r hyp
  · replace hyp := (if_neg c1).symm.trans hyp
    obtain ⟨h5, e6, hyp⟩ := Option.bind_eq_some_iff.mp hyp
    obtain ⟨h7, e8, hyp⟩ := Option.bind_eq_some_iff.mp hyp
    obtain ⟨x9, e10, hyp⟩ := Option.bind_eq_some_iff.mp hyp
    obtain ⟨x11, e12, hyp⟩ := Option.bind_eq_some_iff.mp hyp
    refine rt_st (pc1 := 52) (fun _ _ B => go_icmp_lt_f d_M_sizeOf_22 rfl c1 (go_aload_n 0 d_M_sizeOf_25 rfl (go_bipush (v := (13 : Int32)) d_M_sizeOf_26 (by decide) (go_callV0 (q := q_11) (st := []) [.int (13 : Int32)] (t_M_leaves v0 (13 : Int32) h _ (onc_spec e6).2) mm_M_leaves (by decide) d_M_sizeOf_28 (onc_spec e6).1 rfl rfl w1353 w1355 w49 rfl (Nat.le_of_ble_eq_true rfl) rfl (go_aload_n 0 d_M_sizeOf_31 rfl (go_bipush (v := (10 : Int32)) d_M_sizeOf_32 (by decide) (go_callV0 (q := q_11) (st := []) [.int (10 : Int32)] (t_M_leaves v0 (10 : Int32) h5 _ (onc_spec e8).2) mm_M_leaves (by decide) d_M_sizeOf_34 (onc_spec e8).1 rfl rfl w1353 w1355 w49 rfl (Nat.le_of_ble_eq_true rfl) rfl (go_aload_n 0 d_M_sizeOf_37 rfl (go_gfr d_M_sizeOf_38 fd_11_15 w1004 e10 (go_bipush (v := (9 : Int32)) d_M_sizeOf_41 (by decide) (go_iload_n 1 d_M_sizeOf_43 rfl (go_iadd d_M_sizeOf_44 (go_iald d_M_sizeOf_45 e12 (go_bipush (v := (100 : Int32)) d_M_sizeOf_46 (by decide) (go_isub d_M_sizeOf_48 (go_istore_n (lv1 := [(3, .int (x11 - (100 : Int32))), (0, va_rf v0), (1, .int v1), (2, .int v2)]) d_M_sizeOf_49 (by decide) rfl (go_iload_n 3 d_M_sizeOf_50 rfl (go_iconst (v := (5 : Int32)) d_M_sizeOf_51 (by decide) B)))))))))))))))))) ?_
    by_cases c13 : v2 = (5 : Int32)
    · replace hyp := (if_pos c13).symm.trans hyp
      refine rt_st (pc1 := 62) (fun _ _ B => go_icmp_ne_f d_M_sizeOf_52 rfl c13 (go_iconst (v := (2 : Int32)) d_M_sizeOf_55 (by decide) (go_iload_n 0 d_M_sizeOf_56 rfl (go_imul d_M_sizeOf_57 (go_goto 62 d_M_sizeOf_58 rfl B))))) ?_
      exact rt_eqW Value.int hyp (rt_int d_M_sizeOf_62 rfl)
    · replace hyp := (if_neg c13).symm.trans hyp
      refine rt_st (pc1 := 62) (fun _ _ B => go_icmp_ne_t 61 d_M_sizeOf_52 rfl c13 (go_iload_n 0 d_M_sizeOf_61 rfl B)) ?_
      exact rt_eqW Value.int hyp (rt_int d_M_sizeOf_62 rfl)
set_option maxHeartbeats 4000000 in
set_option maxRecDepth 200000 in
theorem t_M_sizeOf (v0 : Option Nat) (v1 : Int32) (h : MH) (r : (Int32 × MH)) (hyp : f_M_sizeOf v0 v1 h = some r) : Mt mi_M_sizeOf 3 [va_rf v0, .int v1] h (some (.int r.1)) r.2 := by
  refine Mt.rt (lv := [(0, va_rf v0), (1, .int v1)]) (by decide +kernel) (by simp [lv_args, mj_rfc, mj_cti, mj_ctl]) (by simp [mj_rfc, mj_cti, mj_ctl]) ?_
  unfold f_M_sizeOf at hyp
  obtain ⟨x1, e2, hyp⟩ := Option.bind_eq_some_iff.mp hyp
  obtain ⟨x3, e4, hyp⟩ := Option.bind_eq_some_iff.mp hyp
  refine rt_st (pc1 := 11) (fun _ _ B => go_aload_n 0 d_M_sizeOf_0 rfl (go_gfr d_M_sizeOf_1 fd_11_15 w1004 e2 (go_iconst (v := (5 : Int32)) d_M_sizeOf_4 (by decide) (go_iload_n 1 d_M_sizeOf_5 rfl (go_iadd d_M_sizeOf_6 (go_iald d_M_sizeOf_7 e4 (go_istore_n (lv1 := [(2, .int x3), (0, va_rf v0), (1, .int v1)]) d_M_sizeOf_8 (by decide) rfl (go_iload_n 0 d_M_sizeOf_9 rfl (go_iconst (v := (5 : Int32)) d_M_sizeOf_10 (by decide) B))))))))) ?_
  by_cases c5 : x3 = (5 : Int32)
  · replace hyp := (if_pos c5).symm.trans hyp
    obtain ⟨h6, e7, hyp⟩ := Option.bind_eq_some_iff.mp hyp
    refine rt_st (pc1 := 20) (fun _ _ B => go_icmp_ne_f d_M_sizeOf_11 rfl c5 (go_aload_n 1 d_M_sizeOf_14 rfl (go_bipush (v := (14 : Int32)) d_M_sizeOf_15 (by decide) (go_callV0 (q := q_11) (st := []) [.int (14 : Int32)] (t_M_leaves v0 (14 : Int32) h _ (onc_spec e7).2) mm_M_leaves (by decide) d_M_sizeOf_17 (onc_spec e7).1 rfl rfl w1353 w1355 w49 rfl (Nat.le_of_ble_eq_true rfl) rfl B)))) ?_
    refine rt_sub [1, 2, 0] (lv1 := [(0, va_rf v0), (1, .int v1), (2, .int x3)]) rfl ?_
    exact p_M_sizeOf_20 _ _ _ _ r hyp
  · replace hyp := (if_neg c5).symm.trans hyp
    refine rt_st (pc1 := 20) (fun _ _ B => go_icmp_ne_t 20 d_M_sizeOf_11 rfl c5 B) ?_
    refine rt_sub [1, 2, 0] (lv1 := [(0, va_rf v0), (1, .int v1), (2, .int x3)]) rfl ?_
    exact p_M_sizeOf_20 _ _ _ _ r hyp
/-! WideTurnModel.markOf(I)I -/
def f_M_markOf (v0 : Option Nat) (v1 : Int32) (h : MH) : Option (Int32 × MH) :=
  Option.bind (gfr h v0 [11] 15) fun x1 =>
  Option.bind (ald h x1 0 ((5 : Int32) + v1)) fun x3 =>
  if (4 : Int32) ≤ x3 then
    Option.bind (onc h v0 11 (f_M_leaves v0 (23 : Int32) h)) fun h6 =>
    Option.bind (onc h6 v0 11 (f_M_leaves v0 (20 : Int32) h6)) fun h8 =>
    Option.bind (onc h8 v0 11 (f_M_sizeOf v0 v1 h8)) fun x10 =>
    some ((v1 - x10.1), x10.2)
  else
    Option.bind (onc h v0 11 (f_M_plainMark v0 v1 h)) fun x12 =>
    some (x12.1, x12.2)
set_option maxHeartbeats 4000000 in
set_option maxRecDepth 200000 in
theorem t_M_markOf (v0 : Option Nat) (v1 : Int32) (h : MH) (r : (Int32 × MH)) (hyp : f_M_markOf v0 v1 h = some r) : Mt mi_M_markOf 4 [va_rf v0, .int v1] h (some (.int r.1)) r.2 := by
  refine Mt.rt (lv := [(0, va_rf v0), (1, .int v1)]) (by decide +kernel) (by simp [lv_args, mj_rfc, mj_cti, mj_ctl]) (by simp [mj_rfc, mj_cti, mj_ctl]) ?_
  unfold f_M_markOf at hyp
  obtain ⟨x1, e2, hyp⟩ := Option.bind_eq_some_iff.mp hyp
  obtain ⟨x3, e4, hyp⟩ := Option.bind_eq_some_iff.mp hyp
  refine rt_st (pc1 := 9) (fun _ _ B => go_aload_n 0 d_M_markOf_0 rfl (go_gfr d_M_markOf_1 fd_11_15 w1004 e2 (go_iconst (v := (5 : Int32)) d_M_markOf_4 (by decide) (go_iload_n 1 d_M_markOf_5 rfl (go_iadd d_M_markOf_6 (go_iald d_M_markOf_7 e4 (go_iconst (v := (4 : Int32)) d_M_markOf_8 (by decide) B))))))) ?_
  by_cases c5 : (4 : Int32) ≤ x3
  · replace hyp := (if_pos c5).symm.trans hyp
    obtain ⟨h6, e7, hyp⟩ := Option.bind_eq_some_iff.mp hyp
    obtain ⟨h8, e9, hyp⟩ := Option.bind_eq_some_iff.mp hyp
    obtain ⟨x10, e11, hyp⟩ := Option.bind_eq_some_iff.mp hyp
    refine rt_st (pc1 := 37) (fun _ _ B => go_icmp_ge_t 18 d_M_markOf_9 rfl c5 (go_aload_n 0 d_M_markOf_18 rfl (go_bipush (v := (23 : Int32)) d_M_markOf_19 (by decide) (go_callV0 (q := q_11) (st := []) [.int (23 : Int32)] (t_M_leaves v0 (23 : Int32) h _ (onc_spec e7).2) mm_M_leaves (by decide) d_M_markOf_21 (onc_spec e7).1 rfl rfl w1353 w1355 w49 rfl (Nat.le_of_ble_eq_true rfl) rfl (go_aload_n 0 d_M_markOf_24 rfl (go_bipush (v := (20 : Int32)) d_M_markOf_25 (by decide) (go_callV0 (q := q_11) (st := []) [.int (20 : Int32)] (t_M_leaves v0 (20 : Int32) h6 _ (onc_spec e9).2) mm_M_leaves (by decide) d_M_markOf_27 (onc_spec e9).1 rfl rfl w1353 w1355 w49 rfl (Nat.le_of_ble_eq_true rfl) rfl (go_iload_n 1 d_M_markOf_30 rfl (go_aload_n 0 d_M_markOf_31 rfl (go_iload_n 1 d_M_markOf_32 rfl (go_callV1 (q := q_11) (st := [.int v1]) [.int v1] (t_M_sizeOf v0 v1 h8 _ (onc_spec e11).2) mm_M_sizeOf (by decide) d_M_markOf_33 (onc_spec e11).1 rfl rfl w1349 w1351 w48 rfl (Nat.le_of_ble_eq_true rfl) rfl (go_isub d_M_markOf_36 B)))))))))))) ?_
    exact rt_eqW Value.int hyp (rt_int d_M_markOf_37 rfl)
  · replace hyp := (if_neg c5).symm.trans hyp
    obtain ⟨x12, e13, hyp⟩ := Option.bind_eq_some_iff.mp hyp
    refine rt_st (pc1 := 17) (fun _ _ B => go_icmp_ge_f d_M_markOf_9 rfl c5 (go_aload_n 0 d_M_markOf_12 rfl (go_iload_n 1 d_M_markOf_13 rfl (go_callV1 (q := q_11) (st := []) [.int v1] (t_M_plainMark v0 v1 h _ (onc_spec e13).2) mm_M_plainMark (by decide) d_M_markOf_14 (onc_spec e13).1 rfl rfl w1357 w1359 w50 rfl (Nat.le_of_ble_eq_true rfl) rfl B)))) ?_
    exact rt_eqW Value.int hyp (rt_int d_M_markOf_17 rfl)
/-! WideTurnModel.ask(II)I -/
def f_M_ask (v0 : Option Nat) (v1 : Int32) (v2 : Int32) (h : MH) : Option (Int32 × MH) :=
  Option.bind (pfv h v0 [11] 0 (.int (0 : Int32))) fun h1 =>
  Option.bind (onc h1 v0 11 (f_M_isHand v0 v1 h1)) fun x3 =>
  if x3 = 0 then
    some ((-1000001 : Int32), h1)
  else
    if (f_M_in v2 (0 : Int32) (1 : Int32)) = 0 then
      some ((-1000001 : Int32), h1)
    else
      Option.bind (pfv h1 v0 [11] 22 (.int (0 : Int32))) fun h7 =>
      if v2 = 0 then
        Option.bind (onc h7 v0 11 (f_M_sizeOf v0 v1 h7)) fun x10 =>
        some (x10.1, x10.2)
      else
        Option.bind (onc h7 v0 11 (f_M_markOf v0 v1 h7)) fun x12 =>
        some (x12.1, x12.2)
set_option maxHeartbeats 4000000 in
set_option maxRecDepth 200000 in
theorem t_M_ask (v0 : Option Nat) (v1 : Int32) (v2 : Int32) (h : MH) (r : (Int32 × MH)) (hyp : f_M_ask v0 v1 v2 h = some r) : Mt mi_M_ask 5 [va_rf v0, .int v1, .int v2] h (some (.int r.1)) r.2 := by
  refine Mt.rt (lv := [(0, va_rf v0), (1, .int v1), (2, .int v2)]) (by decide +kernel) (by simp [lv_args, mj_rfc, mj_cti, mj_ctl]) (by simp [mj_rfc, mj_cti, mj_ctl]) ?_
  unfold f_M_ask at hyp
  obtain ⟨h1, e2, hyp⟩ := Option.bind_eq_some_iff.mp hyp
  obtain ⟨x3, e4, hyp⟩ := Option.bind_eq_some_iff.mp hyp
  refine rt_st (pc1 := 10) (fun _ _ B => go_aload_n 0 d_M_ask_0 rfl (go_iconst (v := (0 : Int32)) d_M_ask_1 (by decide) (go_pfi d_M_ask_2 fd_11_0 w989 (fun q => by cases q) e2 (go_aload_n 0 d_M_ask_5 rfl (go_iload_n 1 d_M_ask_6 rfl (go_callV1 (q := q_11) (st := []) [.int v1] (t_M_isHand v0 v1 h1 _ (onc_spec e4).2) mm_M_isHand (by decide) d_M_ask_7 (onc_spec e4).1 rfl rfl w1169 w1171 w40 rfl (Nat.le_of_ble_eq_true rfl) rfl B)))))) ?_
  by_cases c5 : x3 = 0
  · replace hyp := (if_pos c5).symm.trans hyp
    refine rt_st (pc1 := 24) (fun _ _ B => go_if_eq_t 22 d_M_ask_10 rfl c5 (go_ldc (v := (-1000001 : Int32)) d_M_ask_22 w1076 B)) ?_
    exact rt_eqW Value.int hyp (rt_int d_M_ask_24 rfl)
  · replace hyp := (if_neg c5).symm.trans hyp
    refine rt_st (pc1 := 19) (fun _ _ B => go_if_eq_f d_M_ask_10 rfl c5 (go_iload_n 2 d_M_ask_13 rfl (go_iconst (v := (0 : Int32)) d_M_ask_14 (by decide) (go_iconst (v := (1 : Int32)) d_M_ask_15 (by decide) (go_callS1 (st := []) [.int v2, .int (0 : Int32), .int (1 : Int32)] (t_M_in v2 (0 : Int32) (1 : Int32) h1) mm_M_in (by decide) d_M_ask_16 w1073 w1074 rfl (Nat.le_of_ble_eq_true rfl) rfl B))))) ?_
    by_cases c6 : (f_M_in v2 (0 : Int32) (1 : Int32)) = 0
    · replace hyp := (if_pos c6).symm.trans hyp
      refine rt_st (pc1 := 24) (fun _ _ B => go_if_ne_f d_M_ask_19 rfl c6 (go_ldc (v := (-1000001 : Int32)) d_M_ask_22 w1076 B)) ?_
      exact rt_eqW Value.int hyp (rt_int d_M_ask_24 rfl)
    · replace hyp := (if_neg c6).symm.trans hyp
      obtain ⟨h7, e8, hyp⟩ := Option.bind_eq_some_iff.mp hyp
      refine rt_st (pc1 := 31) (fun _ _ B => go_if_ne_t 25 d_M_ask_19 rfl c6 (go_aload_n 0 d_M_ask_25 rfl (go_iconst (v := (0 : Int32)) d_M_ask_26 (by decide) (go_pfi d_M_ask_27 fd_11_22 w1011 (fun q => by cases q) e8 (go_iload_n 2 d_M_ask_30 rfl B))))) ?_
      by_cases c9 : v2 = 0
      · replace hyp := (if_pos c9).symm.trans hyp
        obtain ⟨x10, e11, hyp⟩ := Option.bind_eq_some_iff.mp hyp
        refine rt_st (pc1 := 47) (fun _ _ B => go_if_ne_f d_M_ask_31 rfl c9 (go_aload_n 0 d_M_ask_34 rfl (go_iload_n 1 d_M_ask_35 rfl (go_callV1 (q := q_11) (st := []) [.int v1] (t_M_sizeOf v0 v1 h7 _ (onc_spec e11).2) mm_M_sizeOf (by decide) d_M_ask_36 (onc_spec e11).1 rfl rfl w1349 w1351 w48 rfl (Nat.le_of_ble_eq_true rfl) rfl (go_goto 47 d_M_ask_39 rfl B))))) ?_
        exact rt_eqW Value.int hyp (rt_int d_M_ask_47 rfl)
      · replace hyp := (if_neg c9).symm.trans hyp
        obtain ⟨x12, e13, hyp⟩ := Option.bind_eq_some_iff.mp hyp
        refine rt_st (pc1 := 47) (fun _ _ B => go_if_ne_t 42 d_M_ask_31 rfl c9 (go_aload_n 0 d_M_ask_42 rfl (go_iload_n 1 d_M_ask_43 rfl (go_callV1 (q := q_11) (st := []) [.int v1] (t_M_markOf v0 v1 h7 _ (onc_spec e13).2) mm_M_markOf (by decide) d_M_ask_44 (onc_spec e13).1 rfl rfl w1361 w1363 w51 rfl (Nat.le_of_ble_eq_true rfl) rfl B)))) ?_
        exact rt_eqW Value.int hyp (rt_int d_M_ask_47 rfl)
/-! WideTurnModel.trace(I)I -/
def f_M_trace (v0 : Option Nat) (v1 : Int32) (h : MH) : Option (Int32 × MH) :=
  Option.bind (pfv h v0 [11] 0 (.int (0 : Int32))) fun h1 =>
  Option.bind (gfi h1 v0 [11] 22) fun x3 =>
  if (f_M_in v1 (0 : Int32) (x3 - (1 : Int32))) = 0 then
    some ((-1000000 : Int32), h1)
  else
    Option.bind (gfr h1 v0 [11] 21) fun x6 =>
    Option.bind (ald h1 x6 0 v1) fun x8 =>
    some (x8, h1)
set_option maxHeartbeats 4000000 in
set_option maxRecDepth 200000 in
theorem t_M_trace (v0 : Option Nat) (v1 : Int32) (h : MH) (r : (Int32 × MH)) (hyp : f_M_trace v0 v1 h = some r) : Mt mi_M_trace 2 [va_rf v0, .int v1] h (some (.int r.1)) r.2 := by
  refine Mt.rt (lv := [(0, va_rf v0), (1, .int v1)]) (by decide +kernel) (by simp [lv_args, mj_rfc, mj_cti, mj_ctl]) (by simp [mj_rfc, mj_cti, mj_ctl]) ?_
  unfold f_M_trace at hyp
  obtain ⟨h1, e2, hyp⟩ := Option.bind_eq_some_iff.mp hyp
  obtain ⟨x3, e4, hyp⟩ := Option.bind_eq_some_iff.mp hyp
  refine rt_st (pc1 := 16) (fun _ _ B => go_aload_n 0 d_M_trace_0 rfl (go_iconst (v := (0 : Int32)) d_M_trace_1 (by decide) (go_pfi d_M_trace_2 fd_11_0 w989 (fun q => by cases q) e2 (go_iload_n 1 d_M_trace_5 rfl (go_iconst (v := (0 : Int32)) d_M_trace_6 (by decide) (go_aload_n 0 d_M_trace_7 rfl (go_gfi d_M_trace_8 fd_11_22 w1011 e4 (go_iconst (v := (1 : Int32)) d_M_trace_11 (by decide) (go_isub d_M_trace_12 (go_callS1 (st := []) [.int v1, .int (0 : Int32), .int (x3 - (1 : Int32))] (t_M_in v1 (0 : Int32) (x3 - (1 : Int32)) h1) mm_M_in (by decide) d_M_trace_13 w1073 w1074 rfl (Nat.le_of_ble_eq_true rfl) rfl B)))))))))) ?_
  by_cases c5 : (f_M_in v1 (0 : Int32) (x3 - (1 : Int32))) = 0
  · replace hyp := (if_pos c5).symm.trans hyp
    refine rt_st (pc1 := 30) (fun _ _ B => go_if_eq_t 28 d_M_trace_16 rfl c5 (go_ldc (v := (-1000000 : Int32)) d_M_trace_28 w1239 B)) ?_
    exact rt_eqW Value.int hyp (rt_int d_M_trace_30 rfl)
  · replace hyp := (if_neg c5).symm.trans hyp
    obtain ⟨x6, e7, hyp⟩ := Option.bind_eq_some_iff.mp hyp
    obtain ⟨x8, e9, hyp⟩ := Option.bind_eq_some_iff.mp hyp
    refine rt_st (pc1 := 30) (fun _ _ B => go_if_eq_f d_M_trace_16 rfl c5 (go_aload_n 0 d_M_trace_19 rfl (go_gfr d_M_trace_20 fd_11_21 w1010 e7 (go_iload_n 1 d_M_trace_23 rfl (go_iald d_M_trace_24 e9 (go_goto 30 d_M_trace_25 rfl B)))))) ?_
    exact rt_eqW Value.int hyp (rt_int d_M_trace_30 rfl)
/-! WideTurnModel.count(I)I -/
def b_M_count_43 (F : Nat) (k22 : (Option Nat) → Int32 → Int32 → Int32 → MH → (Option (Int32 × MH))) : (Option Nat) → (Int32) → (Int32) → (Int32) → (Int32) → (MH) → (Option (Int32 × MH)) := fun v0 v1 v3 s0 s1 h => 
  k22 v0 v1 (s0 + s1) (v3 + (1 : Int32)) h
def b_M_count_22 (F : Nat) : Nat → (Option Nat) → (Int32) → (Int32) → (Int32) → (MH) → (Option (Int32 × MH))
  | 0 => fun _ _ _ _ _ => none
  | n + 1 => fun v0 v1 v2 v3 h => 
    if (8 : Int32) ≤ v3 then
      if (3 : Int32) ≤ v1 then
        if v1 = (3 : Int32) then
          Option.bind (gfr h v0 [11] 15) fun x4 =>
          Option.bind (ald h x4 0 (3 : Int32)) fun x6 =>
          some (x6, h)
        else
          if v1 = (4 : Int32) then
            Option.bind (gfr h v0 [11] 15) fun x9 =>
            Option.bind (ald h x9 0 (13 : Int32)) fun x11 =>
            some (x11, h)
          else
            if v1 = (5 : Int32) then
              Option.bind (gfi h v0 [11] 18) fun x14 =>
              some (x14, h)
            else
              Option.bind (gfi h v0 [11] 2) fun x16 =>
              some (x16, h)
      else
        if v1 = 0 then
          some (v2, h)
        else
          if v1 = (1 : Int32) then
            Option.bind (gfr h v0 [11] 15) fun x20 =>
            Option.bind (ald h x20 0 (4 : Int32)) fun x22 =>
            some (x22, h)
          else
            Option.bind (gfr h v0 [11] 15) fun x24 =>
            Option.bind (ald h x24 0 (1 : Int32)) fun x26 =>
            some (x26, h)
    else
      Option.bind (gfr h v0 [11] 10) fun x28 =>
      Option.bind (ald h x28 0 v3) fun x30 =>
      if x30 ≤ 0 then
        b_M_count_43 F (b_M_count_22 F n) v0 v1 v3 v2 (0 : Int32) h
      else
        b_M_count_43 F (b_M_count_22 F n) v0 v1 v3 v2 (1 : Int32) h
def f_M_count (F : Nat) (v0 : Option Nat) (v1 : Int32) (h : MH) : Option (Int32 × MH) :=
  Option.bind (pfv h v0 [11] 0 (.int (0 : Int32))) fun h1 =>
  if (f_M_in v1 (0 : Int32) (6 : Int32)) = 0 then
    some ((-1000001 : Int32), h1)
  else
    b_M_count_22 F F v0 v1 (0 : Int32) (0 : Int32) h1
set_option maxHeartbeats 4000000 in
set_option maxRecDepth 200000 in
theorem p_M_count_43 (F : Nat) {h0 : MH} (k22 : (Option Nat) → Int32 → Int32 → Int32 → MH → (Option (Int32 × MH))) (hk22 : ∀ (v0 : Option Nat) (v1 : Int32) (v2 : Int32) (v3 : Int32) (h : MH) (r : (Int32 × MH)), k22 v0 v1 v2 v3 h = some r → Rt mi_M_count 2 h0 22 [(0, va_rf v0), (1, .int v1), (2, .int v2), (3, .int v3)] [] h (some (.int r.1)) r.2) (v0 : Option Nat) (v1 : Int32) (v3 : Int32) (s0 : Int32) (s1 : Int32) (h : MH) (r : (Int32 × MH)) : b_M_count_43 F k22  v0 v1 v3 s0 s1 h = some r → Rt mi_M_count 2 h0 43 [(0, va_rf v0), (1, .int v1), (3, .int v3)] [.int s1, .int s0] h (some (.int r.1)) r.2 := by
  intro hyp
  unfold b_M_count_43 at hyp
  refine rt_st (pc1 := 22) (fun _ _ B => go_iadd d_M_count_43 (go_istore_n (lv1 := [(2, .int (s0 + s1)), (0, va_rf v0), (1, .int v1), (3, .int v3)]) d_M_count_44 (by decide) rfl (go_iinc (v := (v3 + (1 : Int32))) (lv1 := [(3, .int (v3 + (1 : Int32))), (2, .int (s0 + s1)), (0, va_rf v0), (1, .int v1)]) 3 d_M_count_45 rfl rfl (by decide) rfl (go_goto 22 d_M_count_48 rfl B)))) ?_
  refine rt_sub [2, 3, 1, 0] (lv1 := [(0, va_rf v0), (1, .int v1), (2, .int (s0 + s1)), (3, .int (v3 + (1 : Int32)))]) rfl ?_
  exact hk22 _ _ _ _ _ _ hyp
set_option maxHeartbeats 4000000 in
set_option maxRecDepth 200000 in
theorem p_M_count_22 (F : Nat) {h0 : MH} : ∀ (n : Nat) (v0 : Option Nat) (v1 : Int32) (v2 : Int32) (v3 : Int32) (h : MH) (r : (Int32 × MH)), b_M_count_22 F  n v0 v1 v2 v3 h = some r → Rt mi_M_count 2 h0 22 [(0, va_rf v0), (1, .int v1), (2, .int v2), (3, .int v3)] [] h (some (.int r.1)) r.2 := by
  intro n
  induction n with
  | zero =>
    intro v0 v1 v2 v3 h r hyp
    cases hyp
  | succ n ih =>
    intro v0 v1 v2 v3 h r hyp
    unfold b_M_count_22 at hyp
    refine rt_st (pc1 := 25) (fun _ _ B => go_iload_n 3 d_M_count_22 rfl (go_bipush (v := (8 : Int32)) d_M_count_23 (by decide) B)) ?_
    by_cases c1 : (8 : Int32) ≤ v3
    · replace hyp := (if_pos c1).symm.trans hyp
      refine rt_st (pc1 := 53) (fun _ _ B => go_icmp_ge_t 51 d_M_count_25 rfl c1 (go_iload_n 1 d_M_count_51 rfl (go_iconst (v := (3 : Int32)) d_M_count_52 (by decide) B))) ?_
      by_cases c2 : (3 : Int32) ≤ v1
      · replace hyp := (if_pos c2).symm.trans hyp
        refine rt_st (pc1 := 87) (fun _ _ B => go_icmp_ge_t 85 d_M_count_53 rfl c2 (go_iload_n 1 d_M_count_85 rfl (go_iconst (v := (3 : Int32)) d_M_count_86 (by decide) B))) ?_
        by_cases c3 : v1 = (3 : Int32)
        · replace hyp := (if_pos c3).symm.trans hyp
          obtain ⟨x4, e5, hyp⟩ := Option.bind_eq_some_iff.mp hyp
          obtain ⟨x6, e7, hyp⟩ := Option.bind_eq_some_iff.mp hyp
          refine rt_st (pc1 := 130) (fun _ _ B => go_icmp_ne_f d_M_count_87 rfl c3 (go_aload_n 0 d_M_count_90 rfl (go_gfr d_M_count_91 fd_11_15 w1004 e5 (go_iconst (v := (3 : Int32)) d_M_count_94 (by decide) (go_iald d_M_count_95 e7 (go_goto 130 d_M_count_96 rfl B)))))) ?_
          exact rt_eqW Value.int hyp (rt_int d_M_count_130 rfl)
        · replace hyp := (if_neg c3).symm.trans hyp
          refine rt_st (pc1 := 101) (fun _ _ B => go_icmp_ne_t 99 d_M_count_87 rfl c3 (go_iload_n 1 d_M_count_99 rfl (go_iconst (v := (4 : Int32)) d_M_count_100 (by decide) B))) ?_
          by_cases c8 : v1 = (4 : Int32)
          · replace hyp := (if_pos c8).symm.trans hyp
            obtain ⟨x9, e10, hyp⟩ := Option.bind_eq_some_iff.mp hyp
            obtain ⟨x11, e12, hyp⟩ := Option.bind_eq_some_iff.mp hyp
            refine rt_st (pc1 := 130) (fun _ _ B => go_icmp_ne_f d_M_count_101 rfl c8 (go_aload_n 0 d_M_count_104 rfl (go_gfr d_M_count_105 fd_11_15 w1004 e10 (go_bipush (v := (13 : Int32)) d_M_count_108 (by decide) (go_iald d_M_count_110 e12 (go_goto 130 d_M_count_111 rfl B)))))) ?_
            exact rt_eqW Value.int hyp (rt_int d_M_count_130 rfl)
          · replace hyp := (if_neg c8).symm.trans hyp
            refine rt_st (pc1 := 116) (fun _ _ B => go_icmp_ne_t 114 d_M_count_101 rfl c8 (go_iload_n 1 d_M_count_114 rfl (go_iconst (v := (5 : Int32)) d_M_count_115 (by decide) B))) ?_
            by_cases c13 : v1 = (5 : Int32)
            · replace hyp := (if_pos c13).symm.trans hyp
              obtain ⟨x14, e15, hyp⟩ := Option.bind_eq_some_iff.mp hyp
              refine rt_st (pc1 := 130) (fun _ _ B => go_icmp_ne_f d_M_count_116 rfl c13 (go_aload_n 0 d_M_count_119 rfl (go_gfi d_M_count_120 fd_11_18 w1007 e15 (go_goto 130 d_M_count_123 rfl B)))) ?_
              exact rt_eqW Value.int hyp (rt_int d_M_count_130 rfl)
            · replace hyp := (if_neg c13).symm.trans hyp
              obtain ⟨x16, e17, hyp⟩ := Option.bind_eq_some_iff.mp hyp
              refine rt_st (pc1 := 130) (fun _ _ B => go_icmp_ne_t 126 d_M_count_116 rfl c13 (go_aload_n 0 d_M_count_126 rfl (go_gfi d_M_count_127 fd_11_2 w991 e17 B))) ?_
              exact rt_eqW Value.int hyp (rt_int d_M_count_130 rfl)
      · replace hyp := (if_neg c2).symm.trans hyp
        refine rt_st (pc1 := 57) (fun _ _ B => go_icmp_ge_f d_M_count_53 rfl c2 (go_iload_n 1 d_M_count_56 rfl B)) ?_
        by_cases c18 : v1 = 0
        · replace hyp := (if_pos c18).symm.trans hyp
          refine rt_st (pc1 := 84) (fun _ _ B => go_if_ne_f d_M_count_57 rfl c18 (go_iload_n 2 d_M_count_60 rfl (go_goto 84 d_M_count_61 rfl B))) ?_
          exact rt_eqW Value.int hyp (rt_int d_M_count_84 rfl)
        · replace hyp := (if_neg c18).symm.trans hyp
          refine rt_st (pc1 := 66) (fun _ _ B => go_if_ne_t 64 d_M_count_57 rfl c18 (go_iload_n 1 d_M_count_64 rfl (go_iconst (v := (1 : Int32)) d_M_count_65 (by decide) B))) ?_
          by_cases c19 : v1 = (1 : Int32)
          · replace hyp := (if_pos c19).symm.trans hyp
            obtain ⟨x20, e21, hyp⟩ := Option.bind_eq_some_iff.mp hyp
            obtain ⟨x22, e23, hyp⟩ := Option.bind_eq_some_iff.mp hyp
            refine rt_st (pc1 := 84) (fun _ _ B => go_icmp_ne_f d_M_count_66 rfl c19 (go_aload_n 0 d_M_count_69 rfl (go_gfr d_M_count_70 fd_11_15 w1004 e21 (go_iconst (v := (4 : Int32)) d_M_count_73 (by decide) (go_iald d_M_count_74 e23 (go_goto 84 d_M_count_75 rfl B)))))) ?_
            exact rt_eqW Value.int hyp (rt_int d_M_count_84 rfl)
          · replace hyp := (if_neg c19).symm.trans hyp
            obtain ⟨x24, e25, hyp⟩ := Option.bind_eq_some_iff.mp hyp
            obtain ⟨x26, e27, hyp⟩ := Option.bind_eq_some_iff.mp hyp
            refine rt_st (pc1 := 84) (fun _ _ B => go_icmp_ne_t 78 d_M_count_66 rfl c19 (go_aload_n 0 d_M_count_78 rfl (go_gfr d_M_count_79 fd_11_15 w1004 e25 (go_iconst (v := (1 : Int32)) d_M_count_82 (by decide) (go_iald d_M_count_83 e27 B))))) ?_
            exact rt_eqW Value.int hyp (rt_int d_M_count_84 rfl)
    · replace hyp := (if_neg c1).symm.trans hyp
      obtain ⟨x28, e29, hyp⟩ := Option.bind_eq_some_iff.mp hyp
      obtain ⟨x30, e31, hyp⟩ := Option.bind_eq_some_iff.mp hyp
      refine rt_st (pc1 := 35) (fun _ _ B => go_icmp_ge_f d_M_count_25 rfl c1 (go_iload_n 2 d_M_count_28 rfl (go_aload_n 0 d_M_count_29 rfl (go_gfr d_M_count_30 fd_11_10 w999 e29 (go_iload_n 3 d_M_count_33 rfl (go_iald d_M_count_34 e31 B)))))) ?_
      by_cases c32 : x30 ≤ 0
      · replace hyp := (if_pos c32).symm.trans hyp
        refine rt_st (pc1 := 43) (fun _ _ B => go_if_le_t 42 d_M_count_35 rfl c32 (go_iconst (v := (0 : Int32)) d_M_count_42 (by decide) B)) ?_
        refine rt_sub [0, 1, 3] (lv1 := [(0, va_rf v0), (1, .int v1), (3, .int v3)]) rfl ?_
        exact p_M_count_43 F (b_M_count_22 F n) (fun a0 a1 a2 a3 a4 r hyp => ih a0 a1 a2 a3 a4 r hyp) _ _ _ _ _ _ r hyp
      · replace hyp := (if_neg c32).symm.trans hyp
        refine rt_st (pc1 := 43) (fun _ _ B => go_if_le_f d_M_count_35 rfl c32 (go_iconst (v := (1 : Int32)) d_M_count_38 (by decide) (go_goto 43 d_M_count_39 rfl B))) ?_
        refine rt_sub [0, 1, 3] (lv1 := [(0, va_rf v0), (1, .int v1), (3, .int v3)]) rfl ?_
        exact p_M_count_43 F (b_M_count_22 F n) (fun a0 a1 a2 a3 a4 r hyp => ih a0 a1 a2 a3 a4 r hyp) _ _ _ _ _ _ r hyp
set_option maxHeartbeats 4000000 in
set_option maxRecDepth 200000 in
theorem t_M_count (F : Nat) (v0 : Option Nat) (v1 : Int32) (h : MH) (r : (Int32 × MH)) (hyp : f_M_count F v0 v1 h = some r) : Mt mi_M_count 2 [va_rf v0, .int v1] h (some (.int r.1)) r.2 := by
  refine Mt.rt (lv := [(0, va_rf v0), (1, .int v1)]) (by decide +kernel) (by simp [lv_args, mj_rfc, mj_cti, mj_ctl]) (by simp [mj_rfc, mj_cti, mj_ctl]) ?_
  unfold f_M_count at hyp
  obtain ⟨h1, e2, hyp⟩ := Option.bind_eq_some_iff.mp hyp
  refine rt_st (pc1 := 12) (fun _ _ B => go_aload_n 0 d_M_count_0 rfl (go_iconst (v := (0 : Int32)) d_M_count_1 (by decide) (go_pfi d_M_count_2 fd_11_0 w989 (fun q => by cases q) e2 (go_iload_n 1 d_M_count_5 rfl (go_iconst (v := (0 : Int32)) d_M_count_6 (by decide) (go_bipush (v := (6 : Int32)) d_M_count_7 (by decide) (go_callS1 (st := []) [.int v1, .int (0 : Int32), .int (6 : Int32)] (t_M_in v1 (0 : Int32) (6 : Int32) h1) mm_M_in (by decide) d_M_count_9 w1073 w1074 rfl (Nat.le_of_ble_eq_true rfl) rfl B))))))) ?_
  by_cases c3 : (f_M_in v1 (0 : Int32) (6 : Int32)) = 0
  · replace hyp := (if_pos c3).symm.trans hyp
    refine rt_st (pc1 := 17) (fun _ _ B => go_if_ne_f d_M_count_12 rfl c3 (go_ldc (v := (-1000001 : Int32)) d_M_count_15 w1076 B)) ?_
    exact rt_eqW Value.int hyp (rt_int d_M_count_17 rfl)
  · replace hyp := (if_neg c3).symm.trans hyp
    refine rt_st (pc1 := 22) (fun _ _ B => go_if_ne_t 18 d_M_count_12 rfl c3 (go_iconst (v := (0 : Int32)) d_M_count_18 (by decide) (go_istore_n (lv1 := [(2, .int (0 : Int32)), (0, va_rf v0), (1, .int v1)]) d_M_count_19 (by decide) rfl (go_iconst (v := (0 : Int32)) d_M_count_20 (by decide) (go_istore_n (lv1 := [(3, .int (0 : Int32)), (2, .int (0 : Int32)), (0, va_rf v0), (1, .int v1)]) d_M_count_21 (by decide) rfl B))))) ?_
    refine rt_sub [2, 3, 1, 0] (lv1 := [(0, va_rf v0), (1, .int v1), (2, .int (0 : Int32)), (3, .int (0 : Int32))]) rfl ?_
    exact p_M_count_22 F F _ _ _ _ _ r hyp
/-! WideTurnModel.status()I -/
def f_M_status (v0 : Option Nat) (h : MH) : Option (Int32 × MH) :=
  Option.bind (pfv h v0 [11] 0 (.int (0 : Int32))) fun h1 =>
  Option.bind (gfi h1 v0 [11] 13) fun x3 =>
  some (x3, h1)
set_option maxHeartbeats 4000000 in
set_option maxRecDepth 200000 in
theorem t_M_status (v0 : Option Nat) (h : MH) (r : (Int32 × MH)) (hyp : f_M_status v0 h = some r) : Mt mi_M_status 1 [va_rf v0] h (some (.int r.1)) r.2 := by
  refine Mt.rt (lv := [(0, va_rf v0)]) (by decide +kernel) (by simp [lv_args, mj_rfc, mj_cti, mj_ctl]) (by simp [mj_rfc, mj_cti, mj_ctl]) ?_
  unfold f_M_status at hyp
  obtain ⟨h1, e2, hyp⟩ := Option.bind_eq_some_iff.mp hyp
  obtain ⟨x3, e4, hyp⟩ := Option.bind_eq_some_iff.mp hyp
  refine rt_st (pc1 := 9) (fun _ _ B => go_aload_n 0 d_M_status_0 rfl (go_iconst (v := (0 : Int32)) d_M_status_1 (by decide) (go_pfi d_M_status_2 fd_11_0 w989 (fun q => by cases q) e2 (go_aload_n 0 d_M_status_5 rfl (go_gfi d_M_status_6 fd_11_13 w1002 e4 B))))) ?_
  exact rt_eqW Value.int hyp (rt_int d_M_status_9 rfl)
