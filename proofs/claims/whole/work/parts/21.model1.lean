/-! WideTurnModel.<init>()V -/
def f_M_init (v0 : Option Nat) (h : MH) : Option MH :=
  Option.bind v0 fun t0 =>
  Option.bind (newA h 0 120) fun h2 =>
  Option.bind (pfv h2 v0 [11] 1 (va_rf (some h.2.1))) fun h4 =>
  Option.bind (newA h4 0 8) fun h6 =>
  Option.bind (pfv h6 v0 [11] 10 (va_rf (some h4.2.1))) fun h8 =>
  Option.bind (newA h8 0 8) fun h10 =>
  Option.bind (pfv h10 v0 [11] 11 (va_rf (some h8.2.1))) fun h12 =>
  Option.bind (newA h12 0 320) fun h14 =>
  Option.bind (pfv h14 v0 [11] 12 (va_rf (some h12.2.1))) fun h16 =>
  Option.bind (newA h16 0 42) fun h18 =>
  Option.bind (pfv h18 v0 [11] 14 (va_rf (some h16.2.1))) fun h20 =>
  Option.bind (newA h20 0 42) fun h22 =>
  Option.bind (pfv h22 v0 [11] 15 (va_rf (some h20.2.1))) fun h24 =>
  Option.bind (newA h24 0 42) fun h26 =>
  Option.bind (pfv h26 v0 [11] 16 (va_rf (some h24.2.1))) fun h28 =>
  Option.bind (newA h28 0 1008) fun h30 =>
  Option.bind (pfv h30 v0 [11] 17 (va_rf (some h28.2.1))) fun h32 =>
  Option.bind (newA h32 0 84) fun h34 =>
  Option.bind (pfv h34 v0 [11] 19 (va_rf (some h32.2.1))) fun h36 =>
  Option.bind (newA h36 1 2) fun h38 =>
  Option.bind (pfv h38 v0 [11] 20 (va_rf (some h36.2.1))) fun h40 =>
  Option.bind (newA h40 0 16) fun h42 =>
  Option.bind (pfv h42 v0 [11] 21 (va_rf (some h40.2.1))) fun h44 =>
  Option.bind (newA h44 0 576) fun h46 =>
  Option.bind (pfv h46 v0 [11] 23 (va_rf (some h44.2.1))) fun h48 =>
  Option.bind (newA h48 0 2880) fun h50 =>
  Option.bind (pfv h50 v0 [11] 24 (va_rf (some h48.2.1))) fun h52 =>
  some h52
set_option maxHeartbeats 4000000 in
set_option maxRecDepth 200000 in
theorem t_M_init (v0 : Option Nat) (h : MH) (r : MH) (hyp : f_M_init v0 h = some r) : Mt mi_M_init 2 [va_rf v0] h none r := by
  refine Mt.rt (lv := [(0, va_rf v0)]) (by decide +kernel) (by simp [lv_args, mj_rfc, mj_cti, mj_ctl]) (by simp [mj_rfc, mj_cti, mj_ctl]) ?_
  unfold f_M_init at hyp
  obtain ⟨t0, hthis, hyp⟩ := Option.bind_eq_some_iff.mp hyp
  obtain ⟨h2, e3, hyp⟩ := Option.bind_eq_some_iff.mp hyp
  obtain ⟨h4, e5, hyp⟩ := Option.bind_eq_some_iff.mp hyp
  obtain ⟨h6, e7, hyp⟩ := Option.bind_eq_some_iff.mp hyp
  obtain ⟨h8, e9, hyp⟩ := Option.bind_eq_some_iff.mp hyp
  obtain ⟨h10, e11, hyp⟩ := Option.bind_eq_some_iff.mp hyp
  obtain ⟨h12, e13, hyp⟩ := Option.bind_eq_some_iff.mp hyp
  obtain ⟨h14, e15, hyp⟩ := Option.bind_eq_some_iff.mp hyp
  obtain ⟨h16, e17, hyp⟩ := Option.bind_eq_some_iff.mp hyp
  obtain ⟨h18, e19, hyp⟩ := Option.bind_eq_some_iff.mp hyp
  obtain ⟨h20, e21, hyp⟩ := Option.bind_eq_some_iff.mp hyp
  obtain ⟨h22, e23, hyp⟩ := Option.bind_eq_some_iff.mp hyp
  obtain ⟨h24, e25, hyp⟩ := Option.bind_eq_some_iff.mp hyp
  obtain ⟨h26, e27, hyp⟩ := Option.bind_eq_some_iff.mp hyp
  obtain ⟨h28, e29, hyp⟩ := Option.bind_eq_some_iff.mp hyp
  obtain ⟨h30, e31, hyp⟩ := Option.bind_eq_some_iff.mp hyp
  obtain ⟨h32, e33, hyp⟩ := Option.bind_eq_some_iff.mp hyp
  obtain ⟨h34, e35, hyp⟩ := Option.bind_eq_some_iff.mp hyp
  obtain ⟨h36, e37, hyp⟩ := Option.bind_eq_some_iff.mp hyp
  obtain ⟨h38, e39, hyp⟩ := Option.bind_eq_some_iff.mp hyp
  refine rt_st (pc1 := 82) (fun _ _ B => go_aload_n 0 d_M_init_0 rfl (go_objI (st := []) (mj_some hthis) (by decide) d_M_init_1 w988 w_objI w_objC (Nat.le_of_ble_eq_true rfl) (go_aload_n 0 d_M_init_4 rfl (go_bipush (v := (120 : Int32)) d_M_init_5 (by decide) (go_newA (by decide) rfl d_M_init_7 w_arr0 (by decide) (by decide) (by decide) e3 (go_pfr (ty := (.array .int)) d_M_init_9 fd_11_1 w990 (fun _ => ⟨rfl, rfl⟩) (by decide +kernel) rfl e5 (go_aload_n 0 d_M_init_12 rfl (go_bipush (v := (8 : Int32)) d_M_init_13 (by decide) (go_newA (by decide) rfl d_M_init_15 w_arr0 (by decide) (by decide) (by decide) e7 (go_pfr (ty := (.array .int)) d_M_init_17 fd_11_10 w999 (fun _ => ⟨rfl, rfl⟩) (by decide +kernel) rfl e9 (go_aload_n 0 d_M_init_20 rfl (go_bipush (v := (8 : Int32)) d_M_init_21 (by decide) (go_newA (by decide) rfl d_M_init_23 w_arr0 (by decide) (by decide) (by decide) e11 (go_pfr (ty := (.array .int)) d_M_init_25 fd_11_11 w1000 (fun _ => ⟨rfl, rfl⟩) (by decide +kernel) rfl e13 (go_aload_n 0 d_M_init_28 rfl (go_sipush (v := (320 : Int32)) d_M_init_29 (by decide) (go_newA (by decide) rfl d_M_init_32 w_arr0 (by decide) (by decide) (by decide) e15 (go_pfr (ty := (.array .int)) d_M_init_34 fd_11_12 w1001 (fun _ => ⟨rfl, rfl⟩) (by decide +kernel) rfl e17 (go_aload_n 0 d_M_init_37 rfl (go_bipush (v := (42 : Int32)) d_M_init_38 (by decide) (go_newA (by decide) rfl d_M_init_40 w_arr0 (by decide) (by decide) (by decide) e19 (go_pfr (ty := (.array .int)) d_M_init_42 fd_11_14 w1003 (fun _ => ⟨rfl, rfl⟩) (by decide +kernel) rfl e21 (go_aload_n 0 d_M_init_45 rfl (go_bipush (v := (42 : Int32)) d_M_init_46 (by decide) (go_newA (by decide) rfl d_M_init_48 w_arr0 (by decide) (by decide) (by decide) e23 (go_pfr (ty := (.array .int)) d_M_init_50 fd_11_15 w1004 (fun _ => ⟨rfl, rfl⟩) (by decide +kernel) rfl e25 (go_aload_n 0 d_M_init_53 rfl (go_bipush (v := (42 : Int32)) d_M_init_54 (by decide) (go_newA (by decide) rfl d_M_init_56 w_arr0 (by decide) (by decide) (by decide) e27 (go_pfr (ty := (.array .int)) d_M_init_58 fd_11_16 w1005 (fun _ => ⟨rfl, rfl⟩) (by decide +kernel) rfl e29 (go_aload_n 0 d_M_init_61 rfl (go_sipush (v := (1008 : Int32)) d_M_init_62 (by decide) (go_newA (by decide) rfl d_M_init_65 w_arr0 (by decide) (by decide) (by decide) e31 (go_pfr (ty := (.array .int)) d_M_init_67 fd_11_17 w1006 (fun _ => ⟨rfl, rfl⟩) (by decide +kernel) rfl e33 (go_aload_n 0 d_M_init_70 rfl (go_bipush (v := (84 : Int32)) d_M_init_71 (by decide) (go_newA (by decide) rfl d_M_init_73 w_arr0 (by decide) (by decide) (by decide) e35 (go_pfr (ty := (.array .int)) d_M_init_75 fd_11_19 w1008 (fun _ => ⟨rfl, rfl⟩) (by decide +kernel) rfl e37 (go_aload_n 0 d_M_init_78 rfl (go_iconst (v := (2 : Int32)) d_M_init_79 (by decide) (go_newA (by decide) rfl d_M_init_80 w_arr1 (by decide) (by decide) (by decide) e39 B))))))))))))))))))))))))))))))))))))))))) ?_
  obtain ⟨h40, e41, hyp⟩ := Option.bind_eq_some_iff.mp hyp
  obtain ⟨h42, e43, hyp⟩ := Option.bind_eq_some_iff.mp hyp
  obtain ⟨h44, e45, hyp⟩ := Option.bind_eq_some_iff.mp hyp
  obtain ⟨h46, e47, hyp⟩ := Option.bind_eq_some_iff.mp hyp
  obtain ⟨h48, e49, hyp⟩ := Option.bind_eq_some_iff.mp hyp
  obtain ⟨h50, e51, hyp⟩ := Option.bind_eq_some_iff.mp hyp
  obtain ⟨h52, e53, hyp⟩ := Option.bind_eq_some_iff.mp hyp
  refine rt_st (pc1 := 111) (fun _ _ B => go_pfr (ty := (.array .boolean)) d_M_init_82 fd_11_20 w1009 (fun _ => ⟨rfl, rfl⟩) (by decide +kernel) rfl e41 (go_aload_n 0 d_M_init_85 rfl (go_bipush (v := (16 : Int32)) d_M_init_86 (by decide) (go_newA (by decide) rfl d_M_init_88 w_arr0 (by decide) (by decide) (by decide) e43 (go_pfr (ty := (.array .int)) d_M_init_90 fd_11_21 w1010 (fun _ => ⟨rfl, rfl⟩) (by decide +kernel) rfl e45 (go_aload_n 0 d_M_init_93 rfl (go_sipush (v := (576 : Int32)) d_M_init_94 (by decide) (go_newA (by decide) rfl d_M_init_97 w_arr0 (by decide) (by decide) (by decide) e47 (go_pfr (ty := (.array .int)) d_M_init_99 fd_11_23 w1012 (fun _ => ⟨rfl, rfl⟩) (by decide +kernel) rfl e49 (go_aload_n 0 d_M_init_102 rfl (go_sipush (v := (2880 : Int32)) d_M_init_103 (by decide) (go_newA (by decide) rfl d_M_init_106 w_arr0 (by decide) (by decide) (by decide) e51 (go_pfr (ty := (.array .int)) d_M_init_108 fd_11_24 w1013 (fun _ => ⟨rfl, rfl⟩) (by decide +kernel) rfl e53 B))))))))))))) ?_
  exact rt_eq0 hyp (rt_void d_M_init_111 rfl)
/-! WideTurnModel.in(III)Z -/
def f_M_in (v0 : Int32) (v1 : Int32) (v2 : Int32) : Int32 :=
  if v0 < v1 then
    (0 : Int32)
  else
    if v2 < v0 then
      (0 : Int32)
    else
      (1 : Int32)
set_option maxHeartbeats 4000000 in
set_option maxRecDepth 200000 in
theorem t_M_in (v0 : Int32) (v1 : Int32) (v2 : Int32) (h : MH) : Mt mi_M_in 1 [.int v0, .int v1, .int v2] h (some (.int (f_M_in v0 v1 v2))) h := by
  refine Mt.rt (lv := [(0, .int v0), (1, .int v1), (2, .int v2)]) (by decide +kernel) (by simp [lv_args, mj_rfc, mj_cti, mj_ctl]) (by simp [mj_rfc, mj_cti, mj_ctl]) ?_
  unfold f_M_in
  refine rt_st (pc1 := 2) (fun _ _ B => go_iload_n 0 d_M_in_0 rfl (go_iload_n 1 d_M_in_1 rfl B)) ?_
  by_cases c1 : v0 < v1
  · rw [if_pos c1]
    refine rt_st (pc1 := 15) (fun _ _ B => go_icmp_lt_t 14 d_M_in_2 rfl c1 (go_iconst (v := (0 : Int32)) d_M_in_14 (by decide) B)) ?_
    exact rt_bool d_M_in_15 rfl (by decide)
  · rw [if_neg c1]
    refine rt_st (pc1 := 7) (fun _ _ B => go_icmp_lt_f d_M_in_2 rfl c1 (go_iload_n 0 d_M_in_5 rfl (go_iload_n 2 d_M_in_6 rfl B))) ?_
    by_cases c2 : v2 < v0
    · rw [if_pos c2]
      refine rt_st (pc1 := 15) (fun _ _ B => go_icmp_gt_t 14 d_M_in_7 rfl c2 (go_iconst (v := (0 : Int32)) d_M_in_14 (by decide) B)) ?_
      exact rt_bool d_M_in_15 rfl (by decide)
    · rw [if_neg c2]
      refine rt_st (pc1 := 15) (fun _ _ B => go_icmp_gt_f d_M_in_7 rfl c2 (go_iconst (v := (1 : Int32)) d_M_in_10 (by decide) (go_goto 15 d_M_in_11 rfl B))) ?_
      exact rt_bool d_M_in_15 rfl (by decide)
set_option maxHeartbeats 4000000 in
set_option maxRecDepth 200000 in
theorem z_M_in (v0 : Int32) (v1 : Int32) (v2 : Int32) : (f_M_in v0 v1 v2) &&& 1 = f_M_in v0 v1 v2 := by
  unfold f_M_in
  repeat' split
  all_goals first | decide | skip
/-! WideTurnModel.finds(I)I -/
def f_M_finds (v0 : Option Nat) (v1 : Int32) (h : MH) : Option (Int32 × MH) :=
  Option.bind (pfv h v0 [11] 13 (.int v1)) fun h1 =>
  some (((-1000010 : Int32) - v1), h1)
set_option maxHeartbeats 4000000 in
set_option maxRecDepth 200000 in
theorem t_M_finds (v0 : Option Nat) (v1 : Int32) (h : MH) (r : (Int32 × MH)) (hyp : f_M_finds v0 v1 h = some r) : Mt mi_M_finds 1 [va_rf v0, .int v1] h (some (.int r.1)) r.2 := by
  refine Mt.rt (lv := [(0, va_rf v0), (1, .int v1)]) (by decide +kernel) (by simp [lv_args, mj_rfc, mj_cti, mj_ctl]) (by simp [mj_rfc, mj_cti, mj_ctl]) ?_
  unfold f_M_finds at hyp
  obtain ⟨h1, e2, hyp⟩ := Option.bind_eq_some_iff.mp hyp
  refine rt_st (pc1 := 9) (fun _ _ B => go_aload_n 0 d_M_finds_0 rfl (go_iload_n 1 d_M_finds_1 rfl (go_pfi d_M_finds_2 fd_11_13 w1002 (fun q => by cases q) e2 (go_ldc (v := (-1000010 : Int32)) d_M_finds_5 w1081 (go_iload_n 1 d_M_finds_7 rfl (go_isub d_M_finds_8 B)))))) ?_
  exact rt_eqW Value.int hyp (rt_int d_M_finds_9 rfl)
/-! WideTurnModel.is(I)I -/
def f_M_is (v0 : Option Nat) (v1 : Int32) (h : MH) : Option (Int32 × MH) :=
  Option.bind (pfv h v0 [11] 13 (.int (0 : Int32))) fun h1 =>
  some (v1, h1)
set_option maxHeartbeats 4000000 in
set_option maxRecDepth 200000 in
theorem t_M_is (v0 : Option Nat) (v1 : Int32) (h : MH) (r : (Int32 × MH)) (hyp : f_M_is v0 v1 h = some r) : Mt mi_M_is 1 [va_rf v0, .int v1] h (some (.int r.1)) r.2 := by
  refine Mt.rt (lv := [(0, va_rf v0), (1, .int v1)]) (by decide +kernel) (by simp [lv_args, mj_rfc, mj_cti, mj_ctl]) (by simp [mj_rfc, mj_cti, mj_ctl]) ?_
  unfold f_M_is at hyp
  obtain ⟨h1, e2, hyp⟩ := Option.bind_eq_some_iff.mp hyp
  refine rt_st (pc1 := 6) (fun _ _ B => go_aload_n 0 d_M_is_0 rfl (go_iconst (v := (0 : Int32)) d_M_is_1 (by decide) (go_pfi d_M_is_2 fd_11_13 w1002 (fun q => by cases q) e2 (go_iload_n 1 d_M_is_5 rfl B)))) ?_
  exact rt_eqW Value.int hyp (rt_int d_M_is_6 rfl)
/-! WideTurnModel.isRow(I)Z -/
def f_M_isRow (v0 : Int32) : Int32 :=
  (f_M_in v0 (0 : Int32) (7 : Int32))
set_option maxHeartbeats 4000000 in
set_option maxRecDepth 200000 in
theorem t_M_isRow (v0 : Int32) (h : MH) : Mt mi_M_isRow 2 [.int v0] h (some (.int (f_M_isRow v0))) h := by
  refine Mt.rt (lv := [(0, .int v0)]) (by decide +kernel) (by simp [lv_args, mj_rfc, mj_cti, mj_ctl]) (by simp [mj_rfc, mj_cti, mj_ctl]) ?_
  unfold f_M_isRow
  refine rt_st (pc1 := 7) (fun _ _ B => go_iload_n 0 d_M_isRow_0 rfl (go_iconst (v := (0 : Int32)) d_M_isRow_1 (by decide) (go_bipush (v := (7 : Int32)) d_M_isRow_2 (by decide) (go_callS1 (st := []) [.int v0, .int (0 : Int32), .int (7 : Int32)] (t_M_in v0 (0 : Int32) (7 : Int32) h) mm_M_in (by decide) d_M_isRow_4 w1073 w1074 rfl (Nat.le_of_ble_eq_true rfl) rfl B)))) ?_
  exact rt_bool d_M_isRow_7 rfl (z_M_in ..)
set_option maxHeartbeats 4000000 in
set_option maxRecDepth 200000 in
theorem z_M_isRow (v0 : Int32) : (f_M_isRow v0) &&& 1 = f_M_isRow v0 := by
  unfold f_M_isRow
  repeat' split
  all_goals first | decide | exact z_M_in .. | skip
/-! WideTurnModel.row(III)I -/
def b_M_row_59 (F : Nat) : Nat → (Option Nat) → (Int32) → (Int32) → (Int32) → (MH) → (Option (Int32 × MH))
  | 0 => fun _ _ _ _ _ => none
  | n + 1 => fun v0 v1 v3 v4 h => 
    if v3 ≤ v4 then
      Option.bind (onc h v0 11 (f_M_is v0 v3 h)) fun x2 =>
      some (x2.1, x2.2)
    else
      Option.bind (gfr h v0 [11] 12) fun x4 =>
      Option.bind (ast h x4 0 (((40 : Int32) * v1) + v4) (0 : Int32)) fun h6 =>
      (b_M_row_59 F n) v0 v1 v3 (v4 + (1 : Int32)) h6
def f_M_row (F : Nat) (v0 : Option Nat) (v1 : Int32) (v2 : Int32) (v3 : Int32) (h : MH) : Option (Int32 × MH) :=
  Option.bind (pfv h v0 [11] 0 (.int (0 : Int32))) fun h1 =>
  if (f_M_isRow v1) = 0 then
    some ((-1000001 : Int32), h1)
  else
    if (f_M_in v2 (0 : Int32) (2 : Int32)) = 0 then
      some ((-1000001 : Int32), h1)
    else
      if v3 ≤ (40 : Int32) then
        if 0 ≤ v3 then
          Option.bind (gfr h1 v0 [11] 10) fun x7 =>
          Option.bind (ast h1 x7 0 v1 (v2 + (1 : Int32))) fun h9 =>
          Option.bind (gfr h9 v0 [11] 11) fun x11 =>
          Option.bind (ast h9 x11 0 v1 v3) fun h13 =>
          b_M_row_59 F F v0 v1 v3 (0 : Int32) h13
        else
          Option.bind (onc h1 v0 11 (f_M_finds v0 (4 : Int32) h1)) fun x15 =>
          some (x15.1, x15.2)
      else
        some ((-1000001 : Int32), h1)
set_option maxHeartbeats 4000000 in
set_option maxRecDepth 200000 in
theorem p_M_row_59 (F : Nat) {h0 : MH} : ∀ (n : Nat) (v0 : Option Nat) (v1 : Int32) (v3 : Int32) (v4 : Int32) (h : MH) (r : (Int32 × MH)), b_M_row_59 F  n v0 v1 v3 v4 h = some r → Rt mi_M_row 3 h0 59 [(0, va_rf v0), (1, .int v1), (3, .int v3), (4, .int v4)] [] h (some (.int r.1)) r.2 := by
  intro n
  induction n with
  | zero =>
    intro v0 v1 v3 v4 h r hyp
    cases hyp
  | succ n ih =>
    intro v0 v1 v3 v4 h r hyp
    unfold b_M_row_59 at hyp
    refine rt_st (pc1 := 62) (fun _ _ B => go_iload 3 d_M_row_59 rfl (go_iload_n 2 d_M_row_61 rfl B)) ?_
    by_cases c1 : v3 ≤ v4
    · replace hyp := (if_pos c1).symm.trans hyp
      obtain ⟨x2, e3, hyp⟩ := Option.bind_eq_some_iff.mp hyp
      refine rt_st (pc1 := 89) (fun _ _ B => go_icmp_ge_t 84 d_M_row_62 rfl c1 (go_aload_n 0 d_M_row_84 rfl (go_iload_n 2 d_M_row_85 rfl (go_callV1 (q := q_11) (st := []) [.int v3] (t_M_is v0 v3 h _ (onc_spec e3).2) mm_M_is (by decide) d_M_row_86 (onc_spec e3).1 rfl rfl w1082 w1084 w30 rfl (Nat.le_of_ble_eq_true rfl) rfl B)))) ?_
      exact rt_eqW Value.int hyp (rt_int d_M_row_89 rfl)
    · replace hyp := (if_neg c1).symm.trans hyp
      obtain ⟨x4, e5, hyp⟩ := Option.bind_eq_some_iff.mp hyp
      obtain ⟨h6, e7, hyp⟩ := Option.bind_eq_some_iff.mp hyp
      refine rt_st (pc1 := 59) (fun _ _ B => go_icmp_ge_f d_M_row_62 rfl c1 (go_aload_n 0 d_M_row_65 rfl (go_gfr d_M_row_66 fd_11_12 w1001 e5 (go_bipush (v := (40 : Int32)) d_M_row_69 (by decide) (go_iload_n 1 d_M_row_71 rfl (go_imul d_M_row_72 (go_iload 3 d_M_row_73 rfl (go_iadd d_M_row_75 (go_iconst (v := (0 : Int32)) d_M_row_76 (by decide) (go_iast d_M_row_77 e7 (go_iinc (v := (v4 + (1 : Int32))) (lv1 := [(4, .int (v4 + (1 : Int32))), (0, va_rf v0), (1, .int v1), (3, .int v3)]) 3 d_M_row_78 rfl rfl (by decide) rfl (go_goto 59 d_M_row_81 rfl B)))))))))))) ?_
      refine rt_sub [1, 2, 3, 0] (lv1 := [(0, va_rf v0), (1, .int v1), (3, .int v3), (4, .int (v4 + (1 : Int32)))]) rfl ?_
      exact ih _ _ _ _ _ _ hyp
set_option maxHeartbeats 4000000 in
set_option maxRecDepth 200000 in
theorem t_M_row (F : Nat) (v0 : Option Nat) (v1 : Int32) (v2 : Int32) (v3 : Int32) (h : MH) (r : (Int32 × MH)) (hyp : f_M_row F v0 v1 v2 v3 h = some r) : Mt mi_M_row 3 [va_rf v0, .int v1, .int v2, .int v3] h (some (.int r.1)) r.2 := by
  refine Mt.rt (lv := [(0, va_rf v0), (1, .int v1), (2, .int v2), (3, .int v3)]) (by decide +kernel) (by simp [lv_args, mj_rfc, mj_cti, mj_ctl]) (by simp [mj_rfc, mj_cti, mj_ctl]) ?_
  unfold f_M_row at hyp
  obtain ⟨h1, e2, hyp⟩ := Option.bind_eq_some_iff.mp hyp
  refine rt_st (pc1 := 9) (fun _ _ B => go_aload_n 0 d_M_row_0 rfl (go_iconst (v := (0 : Int32)) d_M_row_1 (by decide) (go_pfi d_M_row_2 fd_11_0 w989 (fun q => by cases q) e2 (go_iload_n 1 d_M_row_5 rfl (go_callS1 (st := []) [.int v1] (t_M_isRow v1 h1) mm_M_isRow (by decide) d_M_row_6 w1070 w1071 rfl (Nat.le_of_ble_eq_true rfl) rfl B))))) ?_
  by_cases c3 : (f_M_isRow v1) = 0
  · replace hyp := (if_pos c3).symm.trans hyp
    refine rt_st (pc1 := 29) (fun _ _ B => go_if_eq_t 27 d_M_row_9 rfl c3 (go_ldc (v := (-1000001 : Int32)) d_M_row_27 w1076 B)) ?_
    exact rt_eqW Value.int hyp (rt_int d_M_row_29 rfl)
  · replace hyp := (if_neg c3).symm.trans hyp
    refine rt_st (pc1 := 18) (fun _ _ B => go_if_eq_f d_M_row_9 rfl c3 (go_iload_n 2 d_M_row_12 rfl (go_iconst (v := (0 : Int32)) d_M_row_13 (by decide) (go_iconst (v := (2 : Int32)) d_M_row_14 (by decide) (go_callS1 (st := []) [.int v2, .int (0 : Int32), .int (2 : Int32)] (t_M_in v2 (0 : Int32) (2 : Int32) h1) mm_M_in (by decide) d_M_row_15 w1073 w1074 rfl (Nat.le_of_ble_eq_true rfl) rfl B))))) ?_
    by_cases c4 : (f_M_in v2 (0 : Int32) (2 : Int32)) = 0
    · replace hyp := (if_pos c4).symm.trans hyp
      refine rt_st (pc1 := 29) (fun _ _ B => go_if_eq_t 27 d_M_row_18 rfl c4 (go_ldc (v := (-1000001 : Int32)) d_M_row_27 w1076 B)) ?_
      exact rt_eqW Value.int hyp (rt_int d_M_row_29 rfl)
    · replace hyp := (if_neg c4).symm.trans hyp
      refine rt_st (pc1 := 24) (fun _ _ B => go_if_eq_f d_M_row_18 rfl c4 (go_iload_n 3 d_M_row_21 rfl (go_bipush (v := (40 : Int32)) d_M_row_22 (by decide) B))) ?_
      by_cases c5 : v3 ≤ (40 : Int32)
      · replace hyp := (if_pos c5).symm.trans hyp
        refine rt_st (pc1 := 31) (fun _ _ B => go_icmp_le_t 30 d_M_row_24 rfl c5 (go_iload_n 3 d_M_row_30 rfl B)) ?_
        by_cases c6 : 0 ≤ v3
        · replace hyp := (if_pos c6).symm.trans hyp
          obtain ⟨x7, e8, hyp⟩ := Option.bind_eq_some_iff.mp hyp
          obtain ⟨h9, e10, hyp⟩ := Option.bind_eq_some_iff.mp hyp
          obtain ⟨x11, e12, hyp⟩ := Option.bind_eq_some_iff.mp hyp
          obtain ⟨h13, e14, hyp⟩ := Option.bind_eq_some_iff.mp hyp
          refine rt_st (pc1 := 59) (fun _ _ B => go_if_ge_t 40 d_M_row_31 rfl c6 (go_aload_n 0 d_M_row_40 rfl (go_gfr d_M_row_41 fd_11_10 w999 e8 (go_iload_n 1 d_M_row_44 rfl (go_iload_n 2 d_M_row_45 rfl (go_iconst (v := (1 : Int32)) d_M_row_46 (by decide) (go_iadd d_M_row_47 (go_iast d_M_row_48 e10 (go_aload_n 0 d_M_row_49 rfl (go_gfr d_M_row_50 fd_11_11 w1000 e12 (go_iload_n 1 d_M_row_53 rfl (go_iload_n 3 d_M_row_54 rfl (go_iast d_M_row_55 e14 (go_iconst (v := (0 : Int32)) d_M_row_56 (by decide) (go_istore (lv1 := [(4, .int (0 : Int32)), (0, va_rf v0), (1, .int v1), (2, .int v2), (3, .int v3)]) d_M_row_57 (by decide) rfl B))))))))))))))) ?_
          refine rt_sub [1, 2, 4, 0] (lv1 := [(0, va_rf v0), (1, .int v1), (3, .int v3), (4, .int (0 : Int32))]) rfl ?_
          exact p_M_row_59 F F _ _ _ _ _ r hyp
        · replace hyp := (if_neg c6).symm.trans hyp
          obtain ⟨x15, e16, hyp⟩ := Option.bind_eq_some_iff.mp hyp
          refine rt_st (pc1 := 39) (fun _ _ B => go_if_ge_f d_M_row_31 rfl c6 (go_aload_n 0 d_M_row_34 rfl (go_iconst (v := (4 : Int32)) d_M_row_35 (by decide) (go_callV1 (q := q_11) (st := []) [.int (4 : Int32)] (t_M_finds v0 (4 : Int32) h1 _ (onc_spec e16).2) mm_M_finds (by decide) d_M_row_36 (onc_spec e16).1 rfl rfl w1077 w1079 w29 rfl (Nat.le_of_ble_eq_true rfl) rfl B)))) ?_
          exact rt_eqW Value.int hyp (rt_int d_M_row_39 rfl)
      · replace hyp := (if_neg c5).symm.trans hyp
        refine rt_st (pc1 := 29) (fun _ _ B => go_icmp_le_f d_M_row_24 rfl c5 (go_ldc (v := (-1000001 : Int32)) d_M_row_27 w1076 B)) ?_
        exact rt_eqW Value.int hyp (rt_int d_M_row_29 rfl)
/-! WideTurnModel.narrow(II)I -/
def f_M_narrow (v0 : Int32) (v1 : Int32) : Int32 :=
  if v0 = (1 : Int32) then
    (Int8.toInt32 (Int32.toInt8 v1))
  else
    if v0 = (2 : Int32) then
      (Int16.toInt32 (Int32.toInt16 v1))
    else
      v1
set_option maxHeartbeats 4000000 in
set_option maxRecDepth 200000 in
theorem t_M_narrow (v0 : Int32) (v1 : Int32) (h : MH) : Mt mi_M_narrow 1 [.int v0, .int v1] h (some (.int (f_M_narrow v0 v1))) h := by
  refine Mt.rt (lv := [(0, .int v0), (1, .int v1)]) (by decide +kernel) (by simp [lv_args, mj_rfc, mj_cti, mj_ctl]) (by simp [mj_rfc, mj_cti, mj_ctl]) ?_
  unfold f_M_narrow
  refine rt_st (pc1 := 2) (fun _ _ B => go_iload_n 0 d_M_narrow_0 rfl (go_iconst (v := (1 : Int32)) d_M_narrow_1 (by decide) B)) ?_
  by_cases c1 : v0 = (1 : Int32)
  · rw [if_pos c1]
    refine rt_st (pc1 := 21) (fun _ _ B => go_icmp_ne_f d_M_narrow_2 rfl c1 (go_iload_n 1 d_M_narrow_5 rfl (go_i2b d_M_narrow_6 (go_goto 21 d_M_narrow_7 rfl B)))) ?_
    exact rt_int d_M_narrow_21 rfl
  · rw [if_neg c1]
    refine rt_st (pc1 := 12) (fun _ _ B => go_icmp_ne_t 10 d_M_narrow_2 rfl c1 (go_iload_n 0 d_M_narrow_10 rfl (go_iconst (v := (2 : Int32)) d_M_narrow_11 (by decide) B))) ?_
    by_cases c2 : v0 = (2 : Int32)
    · rw [if_pos c2]
      refine rt_st (pc1 := 21) (fun _ _ B => go_icmp_ne_f d_M_narrow_12 rfl c2 (go_iload_n 1 d_M_narrow_15 rfl (go_i2s d_M_narrow_16 (go_goto 21 d_M_narrow_17 rfl B)))) ?_
      exact rt_int d_M_narrow_21 rfl
    · rw [if_neg c2]
      refine rt_st (pc1 := 21) (fun _ _ B => go_icmp_ne_t 20 d_M_narrow_12 rfl c2 (go_iload_n 1 d_M_narrow_20 rfl B)) ?_
      exact rt_int d_M_narrow_21 rfl
/-! WideTurnModel.set(III)I -/
def f_M_set (v0 : Option Nat) (v1 : Int32) (v2 : Int32) (v3 : Int32) (h : MH) : Option (Int32 × MH) :=
  Option.bind (pfv h v0 [11] 0 (.int (0 : Int32))) fun h1 =>
  if (f_M_isRow v1) = 0 then
    some ((-1000001 : Int32), h1)
  else
    Option.bind (gfr h1 v0 [11] 10) fun x4 =>
    Option.bind (ald h1 x4 0 v1) fun x6 =>
    if x6 = 0 then
      Option.bind (onc h1 v0 11 (f_M_finds v0 (1 : Int32) h1)) fun x9 =>
      some (x9.1, x9.2)
    else
      Option.bind (gfr h1 v0 [11] 11) fun x11 =>
      Option.bind (ald h1 x11 0 v1) fun x13 =>
      if (f_M_in v2 (0 : Int32) (x13 - (1 : Int32))) = 0 then
        Option.bind (onc h1 v0 11 (f_M_finds v0 (2 : Int32) h1)) fun x16 =>
        some (x16.1, x16.2)
      else
        Option.bind (gfr h1 v0 [11] 12) fun x18 =>
        Option.bind (gfr h1 v0 [11] 10) fun x20 =>
        Option.bind (ald h1 x20 0 v1) fun x22 =>
        Option.bind (ast h1 x18 0 (((40 : Int32) * v1) + v2) (f_M_narrow x22 v3)) fun h24 =>
        Option.bind (gfr h24 v0 [11] 12) fun x26 =>
        Option.bind (ald h24 x26 0 (((40 : Int32) * v1) + v2)) fun x28 =>
        Option.bind (onc h24 v0 11 (f_M_is v0 x28 h24)) fun x30 =>
        some (x30.1, x30.2)
set_option maxHeartbeats 4000000 in
set_option maxRecDepth 200000 in
theorem t_M_set (v0 : Option Nat) (v1 : Int32) (v2 : Int32) (v3 : Int32) (h : MH) (r : (Int32 × MH)) (hyp : f_M_set v0 v1 v2 v3 h = some r) : Mt mi_M_set 3 [va_rf v0, .int v1, .int v2, .int v3] h (some (.int r.1)) r.2 := by
  refine Mt.rt (lv := [(0, va_rf v0), (1, .int v1), (2, .int v2), (3, .int v3)]) (by decide +kernel) (by simp [lv_args, mj_rfc, mj_cti, mj_ctl]) (by simp [mj_rfc, mj_cti, mj_ctl]) ?_
  unfold f_M_set at hyp
  obtain ⟨h1, e2, hyp⟩ := Option.bind_eq_some_iff.mp hyp
  refine rt_st (pc1 := 9) (fun _ _ B => go_aload_n 0 d_M_set_0 rfl (go_iconst (v := (0 : Int32)) d_M_set_1 (by decide) (go_pfi d_M_set_2 fd_11_0 w989 (fun q => by cases q) e2 (go_iload_n 1 d_M_set_5 rfl (go_callS1 (st := []) [.int v1] (t_M_isRow v1 h1) mm_M_isRow (by decide) d_M_set_6 w1070 w1071 rfl (Nat.le_of_ble_eq_true rfl) rfl B))))) ?_
  by_cases c3 : (f_M_isRow v1) = 0
  · replace hyp := (if_pos c3).symm.trans hyp
    refine rt_st (pc1 := 14) (fun _ _ B => go_if_ne_f d_M_set_9 rfl c3 (go_ldc (v := (-1000001 : Int32)) d_M_set_12 w1076 B)) ?_
    exact rt_eqW Value.int hyp (rt_int d_M_set_14 rfl)
  · replace hyp := (if_neg c3).symm.trans hyp
    obtain ⟨x4, e5, hyp⟩ := Option.bind_eq_some_iff.mp hyp
    obtain ⟨x6, e7, hyp⟩ := Option.bind_eq_some_iff.mp hyp
    refine rt_st (pc1 := 21) (fun _ _ B => go_if_ne_t 15 d_M_set_9 rfl c3 (go_aload_n 0 d_M_set_15 rfl (go_gfr d_M_set_16 fd_11_10 w999 e5 (go_iload_n 1 d_M_set_19 rfl (go_iald d_M_set_20 e7 B))))) ?_
    by_cases c8 : x6 = 0
    · replace hyp := (if_pos c8).symm.trans hyp
      obtain ⟨x9, e10, hyp⟩ := Option.bind_eq_some_iff.mp hyp
      refine rt_st (pc1 := 29) (fun _ _ B => go_if_ne_f d_M_set_21 rfl c8 (go_aload_n 0 d_M_set_24 rfl (go_iconst (v := (1 : Int32)) d_M_set_25 (by decide) (go_callV1 (q := q_11) (st := []) [.int (1 : Int32)] (t_M_finds v0 (1 : Int32) h1 _ (onc_spec e10).2) mm_M_finds (by decide) d_M_set_26 (onc_spec e10).1 rfl rfl w1077 w1079 w29 rfl (Nat.le_of_ble_eq_true rfl) rfl B)))) ?_
      exact rt_eqW Value.int hyp (rt_int d_M_set_29 rfl)
    · replace hyp := (if_neg c8).symm.trans hyp
      obtain ⟨x11, e12, hyp⟩ := Option.bind_eq_some_iff.mp hyp
      obtain ⟨x13, e14, hyp⟩ := Option.bind_eq_some_iff.mp hyp
      refine rt_st (pc1 := 43) (fun _ _ B => go_if_ne_t 30 d_M_set_21 rfl c8 (go_iload_n 2 d_M_set_30 rfl (go_iconst (v := (0 : Int32)) d_M_set_31 (by decide) (go_aload_n 0 d_M_set_32 rfl (go_gfr d_M_set_33 fd_11_11 w1000 e12 (go_iload_n 1 d_M_set_36 rfl (go_iald d_M_set_37 e14 (go_iconst (v := (1 : Int32)) d_M_set_38 (by decide) (go_isub d_M_set_39 (go_callS1 (st := []) [.int v2, .int (0 : Int32), .int (x13 - (1 : Int32))] (t_M_in v2 (0 : Int32) (x13 - (1 : Int32)) h1) mm_M_in (by decide) d_M_set_40 w1073 w1074 rfl (Nat.le_of_ble_eq_true rfl) rfl B)))))))))) ?_
      by_cases c15 : (f_M_in v2 (0 : Int32) (x13 - (1 : Int32))) = 0
      · replace hyp := (if_pos c15).symm.trans hyp
        obtain ⟨x16, e17, hyp⟩ := Option.bind_eq_some_iff.mp hyp
        refine rt_st (pc1 := 51) (fun _ _ B => go_if_ne_f d_M_set_43 rfl c15 (go_aload_n 0 d_M_set_46 rfl (go_iconst (v := (2 : Int32)) d_M_set_47 (by decide) (go_callV1 (q := q_11) (st := []) [.int (2 : Int32)] (t_M_finds v0 (2 : Int32) h1 _ (onc_spec e17).2) mm_M_finds (by decide) d_M_set_48 (onc_spec e17).1 rfl rfl w1077 w1079 w29 rfl (Nat.le_of_ble_eq_true rfl) rfl B)))) ?_
        exact rt_eqW Value.int hyp (rt_int d_M_set_51 rfl)
      · replace hyp := (if_neg c15).symm.trans hyp
        obtain ⟨x18, e19, hyp⟩ := Option.bind_eq_some_iff.mp hyp
        obtain ⟨x20, e21, hyp⟩ := Option.bind_eq_some_iff.mp hyp
        obtain ⟨x22, e23, hyp⟩ := Option.bind_eq_some_iff.mp hyp
        obtain ⟨h24, e25, hyp⟩ := Option.bind_eq_some_iff.mp hyp
        obtain ⟨x26, e27, hyp⟩ := Option.bind_eq_some_iff.mp hyp
        obtain ⟨x28, e29, hyp⟩ := Option.bind_eq_some_iff.mp hyp
        obtain ⟨x30, e31, hyp⟩ := Option.bind_eq_some_iff.mp hyp
        refine rt_st (pc1 := 88) (fun _ _ B => go_if_ne_t 52 d_M_set_43 rfl c15 (go_aload_n 0 d_M_set_52 rfl (go_gfr d_M_set_53 fd_11_12 w1001 e19 (go_bipush (v := (40 : Int32)) d_M_set_56 (by decide) (go_iload_n 1 d_M_set_58 rfl (go_imul d_M_set_59 (go_iload_n 2 d_M_set_60 rfl (go_iadd d_M_set_61 (go_aload_n 0 d_M_set_62 rfl (go_gfr d_M_set_63 fd_11_10 w999 e21 (go_iload_n 1 d_M_set_66 rfl (go_iald d_M_set_67 e23 (go_iload_n 3 d_M_set_68 rfl (go_callS1 (st := [.int (((40 : Int32) * v1) + v2), va_rf x18]) [.int x22, .int v3] (t_M_narrow x22 v3 h1) mm_M_narrow (by decide) d_M_set_69 w1090 w1091 rfl (Nat.le_of_ble_eq_true rfl) rfl (go_iast d_M_set_72 e25 (go_aload_n 0 d_M_set_73 rfl (go_aload_n 0 d_M_set_74 rfl (go_gfr d_M_set_75 fd_11_12 w1001 e27 (go_bipush (v := (40 : Int32)) d_M_set_78 (by decide) (go_iload_n 1 d_M_set_80 rfl (go_imul d_M_set_81 (go_iload_n 2 d_M_set_82 rfl (go_iadd d_M_set_83 (go_iald d_M_set_84 e29 (go_callV1 (q := q_11) (st := []) [.int x28] (t_M_is v0 x28 h24 _ (onc_spec e31).2) mm_M_is (by decide) d_M_set_85 (onc_spec e31).1 rfl rfl w1082 w1084 w30 rfl (Nat.le_of_ble_eq_true rfl) rfl B))))))))))))))))))))))))) ?_
        exact rt_eqW Value.int hyp (rt_int d_M_set_88 rfl)
/-! WideTurnModel.isPart(III)Z -/
def f_M_isPart (v0 : Option Nat) (v1 : Int32) (v2 : Int32) (v3 : Int32) (h : MH) : Option (Int32) :=
  if v2 < 0 then
    some (0 : Int32)
  else
    if v3 < 0 then
      some (0 : Int32)
    else
      Option.bind (gfr h v0 [11] 11) fun x3 =>
      Option.bind (ald h x3 0 v1) fun x5 =>
      if x5 < v2 then
        some (0 : Int32)
      else
        Option.bind (gfr h v0 [11] 11) fun x8 =>
        Option.bind (ald h x8 0 v1) fun x10 =>
        if (x10 - v2) < v3 then
          some (0 : Int32)
        else
          some (1 : Int32)
set_option maxHeartbeats 4000000 in
set_option maxRecDepth 200000 in
theorem t_M_isPart (v0 : Option Nat) (v1 : Int32) (v2 : Int32) (v3 : Int32) (h : MH) (r : (Int32)) (hyp : f_M_isPart v0 v1 v2 v3 h = some r) : Mt mi_M_isPart 1 [va_rf v0, .int v1, .int v2, .int v3] h (some (.int r)) h := by
  refine Mt.rt (lv := [(0, va_rf v0), (1, .int v1), (2, .int v2), (3, .int v3)]) (by decide +kernel) (by simp [lv_args, mj_rfc, mj_cti, mj_ctl]) (by simp [mj_rfc, mj_cti, mj_ctl]) ?_
  unfold f_M_isPart at hyp
  refine rt_st (pc1 := 1) (fun _ _ B => go_iload_n 2 d_M_isPart_0 rfl B) ?_
  by_cases c1 : v2 < 0
  · replace hyp := (if_pos c1).symm.trans hyp
    refine rt_st (pc1 := 35) (fun _ _ B => go_if_lt_t 34 d_M_isPart_1 rfl c1 (go_iconst (v := (0 : Int32)) d_M_isPart_34 (by decide) B)) ?_
    exact rt_eqR Value.int hyp (rt_bool d_M_isPart_35 rfl (by decide))
  · replace hyp := (if_neg c1).symm.trans hyp
    refine rt_st (pc1 := 5) (fun _ _ B => go_if_lt_f d_M_isPart_1 rfl c1 (go_iload_n 3 d_M_isPart_4 rfl B)) ?_
    by_cases c2 : v3 < 0
    · replace hyp := (if_pos c2).symm.trans hyp
      refine rt_st (pc1 := 35) (fun _ _ B => go_if_lt_t 34 d_M_isPart_5 rfl c2 (go_iconst (v := (0 : Int32)) d_M_isPart_34 (by decide) B)) ?_
      exact rt_eqR Value.int hyp (rt_bool d_M_isPart_35 rfl (by decide))
    · replace hyp := (if_neg c2).symm.trans hyp
      obtain ⟨x3, e4, hyp⟩ := Option.bind_eq_some_iff.mp hyp
      obtain ⟨x5, e6, hyp⟩ := Option.bind_eq_some_iff.mp hyp
      refine rt_st (pc1 := 15) (fun _ _ B => go_if_lt_f d_M_isPart_5 rfl c2 (go_iload_n 2 d_M_isPart_8 rfl (go_aload_n 0 d_M_isPart_9 rfl (go_gfr d_M_isPart_10 fd_11_11 w1000 e4 (go_iload_n 1 d_M_isPart_13 rfl (go_iald d_M_isPart_14 e6 B)))))) ?_
      by_cases c7 : x5 < v2
      · replace hyp := (if_pos c7).symm.trans hyp
        refine rt_st (pc1 := 35) (fun _ _ B => go_icmp_gt_t 34 d_M_isPart_15 rfl c7 (go_iconst (v := (0 : Int32)) d_M_isPart_34 (by decide) B)) ?_
        exact rt_eqR Value.int hyp (rt_bool d_M_isPart_35 rfl (by decide))
      · replace hyp := (if_neg c7).symm.trans hyp
        obtain ⟨x8, e9, hyp⟩ := Option.bind_eq_some_iff.mp hyp
        obtain ⟨x10, e11, hyp⟩ := Option.bind_eq_some_iff.mp hyp
        refine rt_st (pc1 := 27) (fun _ _ B => go_icmp_gt_f d_M_isPart_15 rfl c7 (go_iload_n 3 d_M_isPart_18 rfl (go_aload_n 0 d_M_isPart_19 rfl (go_gfr d_M_isPart_20 fd_11_11 w1000 e9 (go_iload_n 1 d_M_isPart_23 rfl (go_iald d_M_isPart_24 e11 (go_iload_n 2 d_M_isPart_25 rfl (go_isub d_M_isPart_26 B)))))))) ?_
        by_cases c12 : (x10 - v2) < v3
        · replace hyp := (if_pos c12).symm.trans hyp
          refine rt_st (pc1 := 35) (fun _ _ B => go_icmp_gt_t 34 d_M_isPart_27 rfl c12 (go_iconst (v := (0 : Int32)) d_M_isPart_34 (by decide) B)) ?_
          exact rt_eqR Value.int hyp (rt_bool d_M_isPart_35 rfl (by decide))
        · replace hyp := (if_neg c12).symm.trans hyp
          refine rt_st (pc1 := 35) (fun _ _ B => go_icmp_gt_f d_M_isPart_27 rfl c12 (go_iconst (v := (1 : Int32)) d_M_isPart_30 (by decide) (go_goto 35 d_M_isPart_31 rfl B))) ?_
          exact rt_eqR Value.int hyp (rt_bool d_M_isPart_35 rfl (by decide))
/-! WideTurnModel.copy(IIIII)I -/
def b_M_copy_124 (F : Nat) (k99 : (Option Nat) → Int32 → Int32 → Int32 → Int32 → Int32 → Int32 → MH → (Option (Int32 × MH))) : (Option Nat) → (Int32) → (Int32) → (Int32) → (Int32) → (Int32) → (Int32) → (Int32) → (MH) → (Option (Int32 × MH)) := fun v0 v1 v2 v3 v4 v5 v6 s0 h => 
  Option.bind (gfr h v0 [11] 12) fun x1 =>
  Option.bind (gfr h v0 [11] 12) fun x3 =>
  Option.bind (ald h x3 0 ((((40 : Int32) * v1) + v2) + s0)) fun x5 =>
  Option.bind (ast h x1 0 ((((40 : Int32) * v3) + v4) + s0) x5) fun h7 =>
  k99 v0 v1 v2 v3 v4 v5 (v6 + (1 : Int32)) h7
def b_M_copy_99 (F : Nat) : Nat → (Option Nat) → (Int32) → (Int32) → (Int32) → (Int32) → (Int32) → (Int32) → (MH) → (Option (Int32 × MH))
  | 0 => fun _ _ _ _ _ _ _ _ => none
  | n + 1 => fun v0 v1 v2 v3 v4 v5 v6 h => 
    if v5 ≤ v6 then
      Option.bind (onc h v0 11 (f_M_is v0 v5 h)) fun x2 =>
      some (x2.1, x2.2)
    else
      if v4 ≤ v2 then
        b_M_copy_124 F (b_M_copy_99 F n) v0 v1 v2 v3 v4 v5 v6 v6 h
      else
        b_M_copy_124 F (b_M_copy_99 F n) v0 v1 v2 v3 v4 v5 v6 ((v5 - (1 : Int32)) - v6) h
def b_M_copy_90 (F : Nat) : (Option Nat) → (MH) → (Option (Int32 × MH)) := fun v0 h => 
  Option.bind (onc h v0 11 (f_M_finds v0 (2 : Int32) h)) fun x1 =>
  some (x1.1, x1.2)
def b_M_copy_40 (F : Nat) : (Option Nat) → (MH) → (Option (Int32 × MH)) := fun v0 h => 
  Option.bind (onc h v0 11 (f_M_finds v0 (1 : Int32) h)) fun x1 =>
  some (x1.1, x1.2)
def f_M_copy (F : Nat) (v0 : Option Nat) (v1 : Int32) (v2 : Int32) (v3 : Int32) (v4 : Int32) (v5 : Int32) (h : MH) : Option (Int32 × MH) :=
  Option.bind (pfv h v0 [11] 0 (.int (0 : Int32))) fun h1 =>
  if (f_M_isRow v1) = 0 then
    some ((-1000001 : Int32), h1)
  else
    if (f_M_isRow v3) = 0 then
      some ((-1000001 : Int32), h1)
    else
      Option.bind (gfr h1 v0 [11] 10) fun x5 =>
      Option.bind (ald h1 x5 0 v1) fun x7 =>
      if x7 = 0 then
        b_M_copy_40 F v0 h1
      else
        Option.bind (gfr h1 v0 [11] 10) fun x10 =>
        Option.bind (ald h1 x10 0 v3) fun x12 =>
        if x12 = 0 then
          b_M_copy_40 F v0 h1
        else
          Option.bind (gfr h1 v0 [11] 10) fun x15 =>
          Option.bind (ald h1 x15 0 v1) fun x17 =>
          Option.bind (gfr h1 v0 [11] 10) fun x19 =>
          Option.bind (ald h1 x19 0 v3) fun x21 =>
          if x17 = x21 then
            Option.bind (onc h1 v0 11 (f_M_isPart v0 v1 v2 v5 h1)) fun x24 =>
            if x24 = 0 then
              b_M_copy_90 F v0 h1
            else
              Option.bind (onc h1 v0 11 (f_M_isPart v0 v3 v4 v5 h1)) fun x27 =>
              if x27 = 0 then
                b_M_copy_90 F v0 h1
              else
                b_M_copy_99 F F v0 v1 v2 v3 v4 v5 (0 : Int32) h1
          else
            Option.bind (onc h1 v0 11 (f_M_finds v0 (5 : Int32) h1)) fun x30 =>
            some (x30.1, x30.2)
set_option maxHeartbeats 4000000 in
set_option maxRecDepth 200000 in
theorem p_M_copy_124 (F : Nat) {h0 : MH} (k99 : (Option Nat) → Int32 → Int32 → Int32 → Int32 → Int32 → Int32 → MH → (Option (Int32 × MH))) (hk99 : ∀ (v0 : Option Nat) (v1 : Int32) (v2 : Int32) (v3 : Int32) (v4 : Int32) (v5 : Int32) (v6 : Int32) (h : MH) (r : (Int32 × MH)), k99 v0 v1 v2 v3 v4 v5 v6 h = some r → Rt mi_M_copy 3 h0 99 [(0, va_rf v0), (1, .int v1), (2, .int v2), (3, .int v3), (4, .int v4), (5, .int v5), (6, .int v6)] [] h (some (.int r.1)) r.2) (v0 : Option Nat) (v1 : Int32) (v2 : Int32) (v3 : Int32) (v4 : Int32) (v5 : Int32) (v6 : Int32) (s0 : Int32) (h : MH) (r : (Int32 × MH)) : b_M_copy_124 F k99  v0 v1 v2 v3 v4 v5 v6 s0 h = some r → Rt mi_M_copy 3 h0 124 [(0, va_rf v0), (1, .int v1), (2, .int v2), (3, .int v3), (4, .int v4), (5, .int v5), (6, .int v6)] [.int s0] h (some (.int r.1)) r.2 := by
  intro hyp
  unfold b_M_copy_124 at hyp
  obtain ⟨x1, e2, hyp⟩ := Option.bind_eq_some_iff.mp hyp
  obtain ⟨x3, e4, hyp⟩ := Option.bind_eq_some_iff.mp hyp
  obtain ⟨x5, e6, hyp⟩ := Option.bind_eq_some_iff.mp hyp
  obtain ⟨h7, e8, hyp⟩ := Option.bind_eq_some_iff.mp hyp
  refine rt_st (pc1 := 99) (fun _ _ B => go_istore (lv1 := [(7, .int s0), (0, va_rf v0), (1, .int v1), (2, .int v2), (3, .int v3), (4, .int v4), (5, .int v5), (6, .int v6)]) d_M_copy_124 (by decide) rfl (go_aload_n 1 d_M_copy_126 rfl (go_gfr d_M_copy_127 fd_11_12 w1001 e2 (go_bipush (v := (40 : Int32)) d_M_copy_130 (by decide) (go_iload_n 4 d_M_copy_132 rfl (go_imul d_M_copy_133 (go_iload 5 d_M_copy_134 rfl (go_iadd d_M_copy_136 (go_iload 0 d_M_copy_137 rfl (go_iadd d_M_copy_139 (go_aload_n 1 d_M_copy_140 rfl (go_gfr d_M_copy_141 fd_11_12 w1001 e4 (go_bipush (v := (40 : Int32)) d_M_copy_144 (by decide) (go_iload_n 2 d_M_copy_146 rfl (go_imul d_M_copy_147 (go_iload_n 3 d_M_copy_148 rfl (go_iadd d_M_copy_149 (go_iload 0 d_M_copy_150 rfl (go_iadd d_M_copy_152 (go_iald d_M_copy_153 e6 (go_iast d_M_copy_154 e8 (go_iinc (v := (v6 + (1 : Int32))) (lv1 := [(6, .int (v6 + (1 : Int32))), (7, .int s0), (0, va_rf v0), (1, .int v1), (2, .int v2), (3, .int v3), (4, .int v4), (5, .int v5)]) 7 d_M_copy_155 rfl rfl (by decide) rfl (go_goto 99 d_M_copy_158 rfl B))))))))))))))))))))))) ?_
  refine rt_sub [2, 3, 4, 5, 6, 7, 0] (lv1 := [(0, va_rf v0), (1, .int v1), (2, .int v2), (3, .int v3), (4, .int v4), (5, .int v5), (6, .int (v6 + (1 : Int32)))]) rfl ?_
  exact hk99 _ _ _ _ _ _ _ _ _ hyp
set_option maxHeartbeats 4000000 in
set_option maxRecDepth 200000 in
theorem p_M_copy_99 (F : Nat) {h0 : MH} : ∀ (n : Nat) (v0 : Option Nat) (v1 : Int32) (v2 : Int32) (v3 : Int32) (v4 : Int32) (v5 : Int32) (v6 : Int32) (h : MH) (r : (Int32 × MH)), b_M_copy_99 F  n v0 v1 v2 v3 v4 v5 v6 h = some r → Rt mi_M_copy 3 h0 99 [(0, va_rf v0), (1, .int v1), (2, .int v2), (3, .int v3), (4, .int v4), (5, .int v5), (6, .int v6)] [] h (some (.int r.1)) r.2 := by
  intro n
  induction n with
  | zero =>
    intro v0 v1 v2 v3 v4 v5 v6 h r hyp
    cases hyp
  | succ n ih =>
    intro v0 v1 v2 v3 v4 v5 v6 h r hyp
    unfold b_M_copy_99 at hyp
    refine rt_st (pc1 := 103) (fun _ _ B => go_iload 6 d_M_copy_99 rfl (go_iload 5 d_M_copy_101 rfl B)) ?_
    by_cases c1 : v5 ≤ v6
    · replace hyp := (if_pos c1).symm.trans hyp
      obtain ⟨x2, e3, hyp⟩ := Option.bind_eq_some_iff.mp hyp
      refine rt_st (pc1 := 167) (fun _ _ B => go_icmp_ge_t 161 d_M_copy_103 rfl c1 (go_aload_n 0 d_M_copy_161 rfl (go_iload 5 d_M_copy_162 rfl (go_callV1 (q := q_11) (st := []) [.int v5] (t_M_is v0 v5 h _ (onc_spec e3).2) mm_M_is (by decide) d_M_copy_164 (onc_spec e3).1 rfl rfl w1082 w1084 w30 rfl (Nat.le_of_ble_eq_true rfl) rfl B)))) ?_
      exact rt_eqW Value.int hyp (rt_int d_M_copy_167 rfl)
    · replace hyp := (if_neg c1).symm.trans hyp
      refine rt_st (pc1 := 109) (fun _ _ B => go_icmp_ge_f d_M_copy_103 rfl c1 (go_iload_n 2 d_M_copy_106 rfl (go_iload 4 d_M_copy_107 rfl B))) ?_
      by_cases c4 : v4 ≤ v2
      · replace hyp := (if_pos c4).symm.trans hyp
        refine rt_st (pc1 := 124) (fun _ _ B => go_icmp_ge_t 122 d_M_copy_109 rfl c4 (go_iload 6 d_M_copy_122 rfl B)) ?_
        exact p_M_copy_124 F (b_M_copy_99 F n) (fun a0 a1 a2 a3 a4 a5 a6 a7 r hyp => ih a0 a1 a2 a3 a4 a5 a6 a7 r hyp) _ _ _ _ _ _ _ _ _ r hyp
      · replace hyp := (if_neg c4).symm.trans hyp
        refine rt_st (pc1 := 124) (fun _ _ B => go_icmp_ge_f d_M_copy_109 rfl c4 (go_iload 5 d_M_copy_112 rfl (go_iconst (v := (1 : Int32)) d_M_copy_114 (by decide) (go_isub d_M_copy_115 (go_iload 6 d_M_copy_116 rfl (go_isub d_M_copy_118 (go_goto 124 d_M_copy_119 rfl B))))))) ?_
        exact p_M_copy_124 F (b_M_copy_99 F n) (fun a0 a1 a2 a3 a4 a5 a6 a7 r hyp => ih a0 a1 a2 a3 a4 a5 a6 a7 r hyp) _ _ _ _ _ _ _ _ _ r hyp
set_option maxHeartbeats 4000000 in
set_option maxRecDepth 200000 in
theorem p_M_copy_90 (F : Nat) {h0 : MH} (v0 : Option Nat) (h : MH) (r : (Int32 × MH)) : b_M_copy_90 F  v0 h = some r → Rt mi_M_copy 3 h0 90 [(0, va_rf v0)] [] h (some (.int r.1)) r.2 := by
  intro hyp
  unfold b_M_copy_90 at hyp
  obtain ⟨x1, e2, hyp⟩ := Option.bind_eq_some_iff.mp hyp
  refine rt_st (pc1 := 95) (fun _ _ B => go_aload_n 0 d_M_copy_90 rfl (go_iconst (v := (2 : Int32)) d_M_copy_91 (by decide) (go_callV1 (q := q_11) (st := []) [.int (2 : Int32)] (t_M_finds v0 (2 : Int32) h _ (onc_spec e2).2) mm_M_finds (by decide) d_M_copy_92 (onc_spec e2).1 rfl rfl w1077 w1079 w29 rfl (Nat.le_of_ble_eq_true rfl) rfl B))) ?_
  exact rt_eqW Value.int hyp (rt_int d_M_copy_95 rfl)
set_option maxHeartbeats 4000000 in
set_option maxRecDepth 200000 in
theorem p_M_copy_40 (F : Nat) {h0 : MH} (v0 : Option Nat) (h : MH) (r : (Int32 × MH)) : b_M_copy_40 F  v0 h = some r → Rt mi_M_copy 3 h0 40 [(0, va_rf v0)] [] h (some (.int r.1)) r.2 := by
  intro hyp
  unfold b_M_copy_40 at hyp
  obtain ⟨x1, e2, hyp⟩ := Option.bind_eq_some_iff.mp hyp
  refine rt_st (pc1 := 45) (fun _ _ B => go_aload_n 0 d_M_copy_40 rfl (go_iconst (v := (1 : Int32)) d_M_copy_41 (by decide) (go_callV1 (q := q_11) (st := []) [.int (1 : Int32)] (t_M_finds v0 (1 : Int32) h _ (onc_spec e2).2) mm_M_finds (by decide) d_M_copy_42 (onc_spec e2).1 rfl rfl w1077 w1079 w29 rfl (Nat.le_of_ble_eq_true rfl) rfl B))) ?_
  exact rt_eqW Value.int hyp (rt_int d_M_copy_45 rfl)
set_option maxHeartbeats 4000000 in
set_option maxRecDepth 200000 in
theorem t_M_copy (F : Nat) (v0 : Option Nat) (v1 : Int32) (v2 : Int32) (v3 : Int32) (v4 : Int32) (v5 : Int32) (h : MH) (r : (Int32 × MH)) (hyp : f_M_copy F v0 v1 v2 v3 v4 v5 h = some r) : Mt mi_M_copy 3 [va_rf v0, .int v1, .int v2, .int v3, .int v4, .int v5] h (some (.int r.1)) r.2 := by
  refine Mt.rt (lv := [(0, va_rf v0), (1, .int v1), (2, .int v2), (3, .int v3), (4, .int v4), (5, .int v5)]) (by decide +kernel) (by simp [lv_args, mj_rfc, mj_cti, mj_ctl]) (by simp [mj_rfc, mj_cti, mj_ctl]) ?_
  unfold f_M_copy at hyp
  obtain ⟨h1, e2, hyp⟩ := Option.bind_eq_some_iff.mp hyp
  refine rt_st (pc1 := 9) (fun _ _ B => go_aload_n 0 d_M_copy_0 rfl (go_iconst (v := (0 : Int32)) d_M_copy_1 (by decide) (go_pfi d_M_copy_2 fd_11_0 w989 (fun q => by cases q) e2 (go_iload_n 1 d_M_copy_5 rfl (go_callS1 (st := []) [.int v1] (t_M_isRow v1 h1) mm_M_isRow (by decide) d_M_copy_6 w1070 w1071 rfl (Nat.le_of_ble_eq_true rfl) rfl B))))) ?_
  by_cases c3 : (f_M_isRow v1) = 0
  · replace hyp := (if_pos c3).symm.trans hyp
    refine rt_st (pc1 := 21) (fun _ _ B => go_if_eq_t 19 d_M_copy_9 rfl c3 (go_ldc (v := (-1000001 : Int32)) d_M_copy_19 w1076 B)) ?_
    exact rt_eqW Value.int hyp (rt_int d_M_copy_21 rfl)
  · replace hyp := (if_neg c3).symm.trans hyp
    refine rt_st (pc1 := 16) (fun _ _ B => go_if_eq_f d_M_copy_9 rfl c3 (go_iload_n 3 d_M_copy_12 rfl (go_callS1 (st := []) [.int v3] (t_M_isRow v3 h1) mm_M_isRow (by decide) d_M_copy_13 w1070 w1071 rfl (Nat.le_of_ble_eq_true rfl) rfl B))) ?_
    by_cases c4 : (f_M_isRow v3) = 0
    · replace hyp := (if_pos c4).symm.trans hyp
      refine rt_st (pc1 := 21) (fun _ _ B => go_if_ne_f d_M_copy_16 rfl c4 (go_ldc (v := (-1000001 : Int32)) d_M_copy_19 w1076 B)) ?_
      exact rt_eqW Value.int hyp (rt_int d_M_copy_21 rfl)
    · replace hyp := (if_neg c4).symm.trans hyp
      obtain ⟨x5, e6, hyp⟩ := Option.bind_eq_some_iff.mp hyp
      obtain ⟨x7, e8, hyp⟩ := Option.bind_eq_some_iff.mp hyp
      refine rt_st (pc1 := 28) (fun _ _ B => go_if_ne_t 22 d_M_copy_16 rfl c4 (go_aload_n 0 d_M_copy_22 rfl (go_gfr d_M_copy_23 fd_11_10 w999 e6 (go_iload_n 1 d_M_copy_26 rfl (go_iald d_M_copy_27 e8 B))))) ?_
      by_cases c9 : x7 = 0
      · replace hyp := (if_pos c9).symm.trans hyp
        refine rt_st (pc1 := 40) (fun _ _ B => go_if_eq_t 40 d_M_copy_28 rfl c9 B) ?_
        refine rt_sub [0] (lv1 := [(0, va_rf v0)]) rfl ?_
        exact p_M_copy_40 F _ _ r hyp
      · replace hyp := (if_neg c9).symm.trans hyp
        obtain ⟨x10, e11, hyp⟩ := Option.bind_eq_some_iff.mp hyp
        obtain ⟨x12, e13, hyp⟩ := Option.bind_eq_some_iff.mp hyp
        refine rt_st (pc1 := 37) (fun _ _ B => go_if_eq_f d_M_copy_28 rfl c9 (go_aload_n 0 d_M_copy_31 rfl (go_gfr d_M_copy_32 fd_11_10 w999 e11 (go_iload_n 3 d_M_copy_35 rfl (go_iald d_M_copy_36 e13 B))))) ?_
        by_cases c14 : x12 = 0
        · replace hyp := (if_pos c14).symm.trans hyp
          refine rt_st (pc1 := 40) (fun _ _ B => go_if_ne_f d_M_copy_37 rfl c14 B) ?_
          refine rt_sub [0] (lv1 := [(0, va_rf v0)]) rfl ?_
          exact p_M_copy_40 F _ _ r hyp
        · replace hyp := (if_neg c14).symm.trans hyp
          obtain ⟨x15, e16, hyp⟩ := Option.bind_eq_some_iff.mp hyp
          obtain ⟨x17, e18, hyp⟩ := Option.bind_eq_some_iff.mp hyp
          obtain ⟨x19, e20, hyp⟩ := Option.bind_eq_some_iff.mp hyp
          obtain ⟨x21, e22, hyp⟩ := Option.bind_eq_some_iff.mp hyp
          refine rt_st (pc1 := 58) (fun _ _ B => go_if_ne_t 46 d_M_copy_37 rfl c14 (go_aload_n 0 d_M_copy_46 rfl (go_gfr d_M_copy_47 fd_11_10 w999 e16 (go_iload_n 1 d_M_copy_50 rfl (go_iald d_M_copy_51 e18 (go_aload_n 0 d_M_copy_52 rfl (go_gfr d_M_copy_53 fd_11_10 w999 e20 (go_iload_n 3 d_M_copy_56 rfl (go_iald d_M_copy_57 e22 B))))))))) ?_
          by_cases c23 : x17 = x21
          · replace hyp := (if_pos c23).symm.trans hyp
            obtain ⟨x24, e25, hyp⟩ := Option.bind_eq_some_iff.mp hyp
            refine rt_st (pc1 := 75) (fun _ _ B => go_icmp_eq_t 67 d_M_copy_58 rfl c23 (go_aload_n 0 d_M_copy_67 rfl (go_iload_n 1 d_M_copy_68 rfl (go_iload_n 2 d_M_copy_69 rfl (go_iload 5 d_M_copy_70 rfl (go_callV1 (q := q_11) (st := []) [.int v1, .int v2, .int v5] (t_M_isPart v0 v1 v2 v5 h1 _ (onc_spec e25).2) mm_M_isPart (by decide) d_M_copy_72 (onc_spec e25).1 rfl rfl w1097 w1099 w31 rfl (Nat.le_of_ble_eq_true rfl) rfl B)))))) ?_
            by_cases c26 : x24 = 0
            · replace hyp := (if_pos c26).symm.trans hyp
              refine rt_st (pc1 := 90) (fun _ _ B => go_if_eq_t 90 d_M_copy_75 rfl c26 B) ?_
              refine rt_sub [0] (lv1 := [(0, va_rf v0)]) rfl ?_
              exact p_M_copy_90 F _ _ r hyp
            · replace hyp := (if_neg c26).symm.trans hyp
              obtain ⟨x27, e28, hyp⟩ := Option.bind_eq_some_iff.mp hyp
              refine rt_st (pc1 := 87) (fun _ _ B => go_if_eq_f d_M_copy_75 rfl c26 (go_aload_n 0 d_M_copy_78 rfl (go_iload_n 3 d_M_copy_79 rfl (go_iload 4 d_M_copy_80 rfl (go_iload 5 d_M_copy_82 rfl (go_callV1 (q := q_11) (st := []) [.int v3, .int v4, .int v5] (t_M_isPart v0 v3 v4 v5 h1 _ (onc_spec e28).2) mm_M_isPart (by decide) d_M_copy_84 (onc_spec e28).1 rfl rfl w1097 w1099 w31 rfl (Nat.le_of_ble_eq_true rfl) rfl B)))))) ?_
              by_cases c29 : x27 = 0
              · replace hyp := (if_pos c29).symm.trans hyp
                refine rt_st (pc1 := 90) (fun _ _ B => go_if_ne_f d_M_copy_87 rfl c29 B) ?_
                refine rt_sub [0] (lv1 := [(0, va_rf v0)]) rfl ?_
                exact p_M_copy_90 F _ _ r hyp
              · replace hyp := (if_neg c29).symm.trans hyp
                refine rt_st (pc1 := 99) (fun _ _ B => go_if_ne_t 96 d_M_copy_87 rfl c29 (go_iconst (v := (0 : Int32)) d_M_copy_96 (by decide) (go_istore (lv1 := [(6, .int (0 : Int32)), (0, va_rf v0), (1, .int v1), (2, .int v2), (3, .int v3), (4, .int v4), (5, .int v5)]) d_M_copy_97 (by decide) rfl B))) ?_
                refine rt_sub [1, 2, 3, 4, 5, 6, 0] (lv1 := [(0, va_rf v0), (1, .int v1), (2, .int v2), (3, .int v3), (4, .int v4), (5, .int v5), (6, .int (0 : Int32))]) rfl ?_
                exact p_M_copy_99 F F _ _ _ _ _ _ _ _ r hyp
          · replace hyp := (if_neg c23).symm.trans hyp
            obtain ⟨x30, e31, hyp⟩ := Option.bind_eq_some_iff.mp hyp
            refine rt_st (pc1 := 66) (fun _ _ B => go_icmp_eq_f d_M_copy_58 rfl c23 (go_aload_n 0 d_M_copy_61 rfl (go_iconst (v := (5 : Int32)) d_M_copy_62 (by decide) (go_callV1 (q := q_11) (st := []) [.int (5 : Int32)] (t_M_finds v0 (5 : Int32) h1 _ (onc_spec e31).2) mm_M_finds (by decide) d_M_copy_63 (onc_spec e31).1 rfl rfl w1077 w1079 w29 rfl (Nat.le_of_ble_eq_true rfl) rfl B)))) ?_
            exact rt_eqW Value.int hyp (rt_int d_M_copy_66 rfl)
/-! WideTurnModel.drop(I)I -/
def f_M_drop (v0 : Option Nat) (v1 : Int32) (h : MH) : Option (Int32 × MH) :=
  Option.bind (pfv h v0 [11] 0 (.int (0 : Int32))) fun h1 =>
  if (f_M_isRow v1) = 0 then
    some ((-1000001 : Int32), h1)
  else
    Option.bind (gfr h1 v0 [11] 10) fun x4 =>
    Option.bind (ald h1 x4 0 v1) fun x6 =>
    if x6 = 0 then
      Option.bind (onc h1 v0 11 (f_M_finds v0 (1 : Int32) h1)) fun x9 =>
      some (x9.1, x9.2)
    else
      Option.bind (gfr h1 v0 [11] 10) fun x11 =>
      Option.bind (ast h1 x11 0 v1 (0 : Int32)) fun h13 =>
      Option.bind (gfr h13 v0 [11] 11) fun x15 =>
      Option.bind (ald h13 x15 0 v1) fun x17 =>
      Option.bind (onc h13 v0 11 (f_M_is v0 x17 h13)) fun x19 =>
      some (x19.1, x19.2)
set_option maxHeartbeats 4000000 in
set_option maxRecDepth 200000 in
theorem t_M_drop (v0 : Option Nat) (v1 : Int32) (h : MH) (r : (Int32 × MH)) (hyp : f_M_drop v0 v1 h = some r) : Mt mi_M_drop 3 [va_rf v0, .int v1] h (some (.int r.1)) r.2 := by
  refine Mt.rt (lv := [(0, va_rf v0), (1, .int v1)]) (by decide +kernel) (by simp [lv_args, mj_rfc, mj_cti, mj_ctl]) (by simp [mj_rfc, mj_cti, mj_ctl]) ?_
  unfold f_M_drop at hyp
  obtain ⟨h1, e2, hyp⟩ := Option.bind_eq_some_iff.mp hyp
  refine rt_st (pc1 := 9) (fun _ _ B => go_aload_n 0 d_M_drop_0 rfl (go_iconst (v := (0 : Int32)) d_M_drop_1 (by decide) (go_pfi d_M_drop_2 fd_11_0 w989 (fun q => by cases q) e2 (go_iload_n 1 d_M_drop_5 rfl (go_callS1 (st := []) [.int v1] (t_M_isRow v1 h1) mm_M_isRow (by decide) d_M_drop_6 w1070 w1071 rfl (Nat.le_of_ble_eq_true rfl) rfl B))))) ?_
  by_cases c3 : (f_M_isRow v1) = 0
  · replace hyp := (if_pos c3).symm.trans hyp
    refine rt_st (pc1 := 14) (fun _ _ B => go_if_ne_f d_M_drop_9 rfl c3 (go_ldc (v := (-1000001 : Int32)) d_M_drop_12 w1076 B)) ?_
    exact rt_eqW Value.int hyp (rt_int d_M_drop_14 rfl)
  · replace hyp := (if_neg c3).symm.trans hyp
    obtain ⟨x4, e5, hyp⟩ := Option.bind_eq_some_iff.mp hyp
    obtain ⟨x6, e7, hyp⟩ := Option.bind_eq_some_iff.mp hyp
    refine rt_st (pc1 := 21) (fun _ _ B => go_if_ne_t 15 d_M_drop_9 rfl c3 (go_aload_n 0 d_M_drop_15 rfl (go_gfr d_M_drop_16 fd_11_10 w999 e5 (go_iload_n 1 d_M_drop_19 rfl (go_iald d_M_drop_20 e7 B))))) ?_
    by_cases c8 : x6 = 0
    · replace hyp := (if_pos c8).symm.trans hyp
      obtain ⟨x9, e10, hyp⟩ := Option.bind_eq_some_iff.mp hyp
      refine rt_st (pc1 := 29) (fun _ _ B => go_if_ne_f d_M_drop_21 rfl c8 (go_aload_n 0 d_M_drop_24 rfl (go_iconst (v := (1 : Int32)) d_M_drop_25 (by decide) (go_callV1 (q := q_11) (st := []) [.int (1 : Int32)] (t_M_finds v0 (1 : Int32) h1 _ (onc_spec e10).2) mm_M_finds (by decide) d_M_drop_26 (onc_spec e10).1 rfl rfl w1077 w1079 w29 rfl (Nat.le_of_ble_eq_true rfl) rfl B)))) ?_
      exact rt_eqW Value.int hyp (rt_int d_M_drop_29 rfl)
    · replace hyp := (if_neg c8).symm.trans hyp
      obtain ⟨x11, e12, hyp⟩ := Option.bind_eq_some_iff.mp hyp
      obtain ⟨h13, e14, hyp⟩ := Option.bind_eq_some_iff.mp hyp
      obtain ⟨x15, e16, hyp⟩ := Option.bind_eq_some_iff.mp hyp
      obtain ⟨x17, e18, hyp⟩ := Option.bind_eq_some_iff.mp hyp
      obtain ⟨x19, e20, hyp⟩ := Option.bind_eq_some_iff.mp hyp
      refine rt_st (pc1 := 47) (fun _ _ B => go_if_ne_t 30 d_M_drop_21 rfl c8 (go_aload_n 0 d_M_drop_30 rfl (go_gfr d_M_drop_31 fd_11_10 w999 e12 (go_iload_n 1 d_M_drop_34 rfl (go_iconst (v := (0 : Int32)) d_M_drop_35 (by decide) (go_iast d_M_drop_36 e14 (go_aload_n 0 d_M_drop_37 rfl (go_aload_n 0 d_M_drop_38 rfl (go_gfr d_M_drop_39 fd_11_11 w1000 e16 (go_iload_n 1 d_M_drop_42 rfl (go_iald d_M_drop_43 e18 (go_callV1 (q := q_11) (st := []) [.int x17] (t_M_is v0 x17 h13 _ (onc_spec e20).2) mm_M_is (by decide) d_M_drop_44 (onc_spec e20).1 rfl rfl w1082 w1084 w30 rfl (Nat.le_of_ble_eq_true rfl) rfl B)))))))))))) ?_
      exact rt_eqW Value.int hyp (rt_int d_M_drop_47 rfl)
/-! WideTurnModel.feed(I)I -/
def f_M_feed (v0 : Option Nat) (v1 : Int32) (h : MH) : Option (Int32 × MH) :=
  Option.bind (pfv h v0 [11] 0 (.int (0 : Int32))) fun h1 =>
  if (f_M_in v1 (0 : Int32) (255 : Int32)) = 0 then
    some ((-1000001 : Int32), h1)
  else
    Option.bind (gfi h1 v0 [11] 2) fun x4 =>
    if x4 = (120 : Int32) then
      some ((-1000003 : Int32), h1)
    else
      Option.bind (gfr h1 v0 [11] 1) fun x7 =>
      Option.bind (gfi h1 v0 [11] 2) fun x9 =>
      Option.bind (ast h1 x7 0 x9 v1) fun h11 =>
      Option.bind (gfi h11 v0 [11] 2) fun x13 =>
      Option.bind (pfv h11 v0 [11] 2 (.int (x13 + (1 : Int32)))) fun h15 =>
      Option.bind (gfi h15 v0 [11] 2) fun x17 =>
      some (x17, h15)
set_option maxHeartbeats 4000000 in
set_option maxRecDepth 200000 in
theorem t_M_feed (v0 : Option Nat) (v1 : Int32) (h : MH) (r : (Int32 × MH)) (hyp : f_M_feed v0 v1 h = some r) : Mt mi_M_feed 2 [va_rf v0, .int v1] h (some (.int r.1)) r.2 := by
  refine Mt.rt (lv := [(0, va_rf v0), (1, .int v1)]) (by decide +kernel) (by simp [lv_args, mj_rfc, mj_cti, mj_ctl]) (by simp [mj_rfc, mj_cti, mj_ctl]) ?_
  unfold f_M_feed at hyp
  obtain ⟨h1, e2, hyp⟩ := Option.bind_eq_some_iff.mp hyp
  refine rt_st (pc1 := 13) (fun _ _ B => go_aload_n 0 d_M_feed_0 rfl (go_iconst (v := (0 : Int32)) d_M_feed_1 (by decide) (go_pfi d_M_feed_2 fd_11_0 w989 (fun q => by cases q) e2 (go_iload_n 1 d_M_feed_5 rfl (go_iconst (v := (0 : Int32)) d_M_feed_6 (by decide) (go_sipush (v := (255 : Int32)) d_M_feed_7 (by decide) (go_callS1 (st := []) [.int v1, .int (0 : Int32), .int (255 : Int32)] (t_M_in v1 (0 : Int32) (255 : Int32) h1) mm_M_in (by decide) d_M_feed_10 w1073 w1074 rfl (Nat.le_of_ble_eq_true rfl) rfl B))))))) ?_
  by_cases c3 : (f_M_in v1 (0 : Int32) (255 : Int32)) = 0
  · replace hyp := (if_pos c3).symm.trans hyp
    refine rt_st (pc1 := 18) (fun _ _ B => go_if_ne_f d_M_feed_13 rfl c3 (go_ldc (v := (-1000001 : Int32)) d_M_feed_16 w1076 B)) ?_
    exact rt_eqW Value.int hyp (rt_int d_M_feed_18 rfl)
  · replace hyp := (if_neg c3).symm.trans hyp
    obtain ⟨x4, e5, hyp⟩ := Option.bind_eq_some_iff.mp hyp
    refine rt_st (pc1 := 25) (fun _ _ B => go_if_ne_t 19 d_M_feed_13 rfl c3 (go_aload_n 0 d_M_feed_19 rfl (go_gfi d_M_feed_20 fd_11_2 w991 e5 (go_bipush (v := (120 : Int32)) d_M_feed_23 (by decide) B)))) ?_
    by_cases c6 : x4 = (120 : Int32)
    · replace hyp := (if_pos c6).symm.trans hyp
      refine rt_st (pc1 := 30) (fun _ _ B => go_icmp_ne_f d_M_feed_25 rfl c6 (go_ldc (v := (-1000003 : Int32)) d_M_feed_28 w1109 B)) ?_
      exact rt_eqW Value.int hyp (rt_int d_M_feed_30 rfl)
    · replace hyp := (if_neg c6).symm.trans hyp
      obtain ⟨x7, e8, hyp⟩ := Option.bind_eq_some_iff.mp hyp
      obtain ⟨x9, e10, hyp⟩ := Option.bind_eq_some_iff.mp hyp
      obtain ⟨h11, e12, hyp⟩ := Option.bind_eq_some_iff.mp hyp
      obtain ⟨x13, e14, hyp⟩ := Option.bind_eq_some_iff.mp hyp
      obtain ⟨h15, e16, hyp⟩ := Option.bind_eq_some_iff.mp hyp
      obtain ⟨x17, e18, hyp⟩ := Option.bind_eq_some_iff.mp hyp
      refine rt_st (pc1 := 55) (fun _ _ B => go_icmp_ne_t 31 d_M_feed_25 rfl c6 (go_aload_n 0 d_M_feed_31 rfl (go_gfr d_M_feed_32 fd_11_1 w990 e8 (go_aload_n 0 d_M_feed_35 rfl (go_gfi d_M_feed_36 fd_11_2 w991 e10 (go_iload_n 1 d_M_feed_39 rfl (go_iast d_M_feed_40 e12 (go_aload_n 0 d_M_feed_41 rfl (go_dup d_M_feed_42 (mj_rfc _) (go_gfi d_M_feed_43 fd_11_2 w991 e14 (go_iconst (v := (1 : Int32)) d_M_feed_46 (by decide) (go_iadd d_M_feed_47 (go_pfi d_M_feed_48 fd_11_2 w991 (fun q => by cases q) e16 (go_aload_n 0 d_M_feed_51 rfl (go_gfi d_M_feed_52 fd_11_2 w991 e18 B))))))))))))))) ?_
      exact rt_eqW Value.int hyp (rt_int d_M_feed_55 rfl)
/-! WideTurnModel.letterAt(I)I -/
def f_M_letterAt (v0 : Option Nat) (v1 : Int32) (h : MH) : Option (Int32) :=
  Option.bind (gfi h v0 [11] 2) fun x1 =>
  if x1 ≤ v1 then
    some (-1 : Int32)
  else
    Option.bind (gfr h v0 [11] 1) fun x4 =>
    Option.bind (ald h x4 0 v1) fun x6 =>
    some x6
set_option maxHeartbeats 4000000 in
set_option maxRecDepth 200000 in
theorem t_M_letterAt (v0 : Option Nat) (v1 : Int32) (h : MH) (r : (Int32)) (hyp : f_M_letterAt v0 v1 h = some r) : Mt mi_M_letterAt 1 [va_rf v0, .int v1] h (some (.int r)) h := by
  refine Mt.rt (lv := [(0, va_rf v0), (1, .int v1)]) (by decide +kernel) (by simp [lv_args, mj_rfc, mj_cti, mj_ctl]) (by simp [mj_rfc, mj_cti, mj_ctl]) ?_
  unfold f_M_letterAt at hyp
  obtain ⟨x1, e2, hyp⟩ := Option.bind_eq_some_iff.mp hyp
  refine rt_st (pc1 := 5) (fun _ _ B => go_iload_n 1 d_M_letterAt_0 rfl (go_aload_n 0 d_M_letterAt_1 rfl (go_gfi d_M_letterAt_2 fd_11_2 w991 e2 B))) ?_
  by_cases c3 : x1 ≤ v1
  · replace hyp := (if_pos c3).symm.trans hyp
    refine rt_st (pc1 := 18) (fun _ _ B => go_icmp_ge_t 17 d_M_letterAt_5 rfl c3 (go_iconst (v := (-1 : Int32)) d_M_letterAt_17 (by decide) B)) ?_
    exact rt_eqR Value.int hyp (rt_int d_M_letterAt_18 rfl)
  · replace hyp := (if_neg c3).symm.trans hyp
    obtain ⟨x4, e5, hyp⟩ := Option.bind_eq_some_iff.mp hyp
    obtain ⟨x6, e7, hyp⟩ := Option.bind_eq_some_iff.mp hyp
    refine rt_st (pc1 := 18) (fun _ _ B => go_icmp_ge_f d_M_letterAt_5 rfl c3 (go_aload_n 0 d_M_letterAt_8 rfl (go_gfr d_M_letterAt_9 fd_11_1 w990 e5 (go_iload_n 1 d_M_letterAt_12 rfl (go_iald d_M_letterAt_13 e7 (go_goto 18 d_M_letterAt_14 rfl B)))))) ?_
    exact rt_eqR Value.int hyp (rt_int d_M_letterAt_18 rfl)
/-! WideTurnModel.advances()V -/
def b_M_advances_192 (F : Nat) : (Option Nat) → (Int32) → (MH) → (Option MH) := fun s0 s1 h => 
  Option.bind (pfv h s0 [11] 4 (.int s1)) fun h1 =>
  some h1
def b_M_advances_187 (F : Nat) : (Option Nat) → (MH) → (Option MH) := fun s0 h => 
  b_M_advances_192 F s0 (3 : Int32) h
def b_M_advances_138 (F : Nat) : (Option Nat) → (Int32) → (MH) → (Option MH) := fun s0 s1 h => 
  Option.bind (pfv h s0 [11] 4 (.int s1)) fun h1 =>
  some h1
def b_M_advances_103 (F : Nat) (k45 : (Option Nat) → MH → (Option MH)) : (Option Nat) → (Option Nat) → (Int32) → (MH) → (Option MH) := fun v0 s0 s1 h => 
  Option.bind (pfv h s0 [11] 6 (.int s1)) fun h1 =>
  Option.bind (gfi h1 v0 [11] 3) fun x3 =>
  Option.bind (pfv h1 v0 [11] 3 (.int (x3 + (1 : Int32)))) fun h5 =>
  k45 v0 h5
def b_M_advances_45 (F : Nat) : Nat → (Option Nat) → (MH) → (Option MH)
  | 0 => fun _ _ => none
  | n + 1 => fun v0 h => 
    Option.bind (gfi h v0 [11] 3) fun x1 =>
    Option.bind (onc h v0 11 (f_M_letterAt v0 x1 h)) fun x3 =>
    if (f_M_in x3 (48 : Int32) (57 : Int32)) = 0 then
      Option.bind (gfi h v0 [11] 3) fun x6 =>
      Option.bind (gfi h v0 [11] 5) fun x8 =>
      if (x6 - x8) ≤ (2 : Int32) then
        b_M_advances_138 F v0 (2 : Int32) h
      else
        b_M_advances_138 F v0 (4 : Int32) h
    else
      Option.bind (gfi h v0 [11] 3) fun x11 =>
      Option.bind (gfi h v0 [11] 5) fun x13 =>
      if (2 : Int32) ≤ (x11 - x13) then
        Option.bind (gfi h v0 [11] 6) fun x16 =>
        b_M_advances_103 F (b_M_advances_45 F n) v0 v0 x16 h
      else
        Option.bind (gfi h v0 [11] 6) fun x18 =>
        Option.bind (gfi h v0 [11] 3) fun x20 =>
        Option.bind (onc h v0 11 (f_M_letterAt v0 x20 h)) fun x22 =>
        b_M_advances_103 F (b_M_advances_45 F n) v0 v0 ((((10 : Int32) * x18) + x22) - (48 : Int32)) h
def f_M_advances (F : Nat) (v0 : Option Nat) (h : MH) : Option MH :=
  Option.bind (gfi h v0 [11] 3) fun x1 =>
  Option.bind (pfv h v0 [11] 5 (.int x1)) fun h3 =>
  Option.bind (gfi h3 v0 [11] 3) fun x5 =>
  Option.bind (onc h3 v0 11 (f_M_letterAt v0 x5 h3)) fun x7 =>
  if 0 ≤ x7 then
    if (f_M_in x7 (48 : Int32) (57 : Int32)) = 0 then
      Option.bind (gfi h3 v0 [11] 3) fun x11 =>
      Option.bind (pfv h3 v0 [11] 3 (.int (x11 + (1 : Int32)))) fun h13 =>
      Option.bind (pfv h13 v0 [11] 6 (.int x7)) fun h15 =>
      if (f_M_in x7 (97 : Int32) (122 : Int32)) = 0 then
        if x7 = (44 : Int32) then
          b_M_advances_187 F v0 h15
        else
          if x7 = (59 : Int32) then
            b_M_advances_187 F v0 h15
          else
            b_M_advances_192 F v0 (4 : Int32) h15
      else
        b_M_advances_192 F v0 (1 : Int32) h15
    else
      Option.bind (pfv h3 v0 [11] 6 (.int (0 : Int32))) fun h20 =>
      b_M_advances_45 F F v0 h20
  else
    Option.bind (pfv h3 v0 [11] 4 (.int (0 : Int32))) fun h22 =>
    some h22
set_option maxHeartbeats 4000000 in
set_option maxRecDepth 200000 in
theorem p_M_advances_192 (F : Nat) {h0 : MH} (s0 : Option Nat) (s1 : Int32) (h : MH) (r : MH) : b_M_advances_192 F  s0 s1 h = some r → Rt mi_M_advances 2 h0 192 [] [.int s1, va_rf s0] h none r := by
  intro hyp
  unfold b_M_advances_192 at hyp
  obtain ⟨h1, e2, hyp⟩ := Option.bind_eq_some_iff.mp hyp
  refine rt_st (pc1 := 195) (fun _ _ B => go_pfi d_M_advances_192 fd_11_4 w993 (fun q => by cases q) e2 B) ?_
  exact rt_eq0 hyp (rt_void d_M_advances_195 rfl)
set_option maxHeartbeats 4000000 in
set_option maxRecDepth 200000 in
theorem p_M_advances_187 (F : Nat) {h0 : MH} (s0 : Option Nat) (h : MH) (r : MH) : b_M_advances_187 F  s0 h = some r → Rt mi_M_advances 2 h0 187 [] [va_rf s0] h none r := by
  intro hyp
  unfold b_M_advances_187 at hyp
  refine rt_st (pc1 := 192) (fun _ _ B => go_iconst (v := (3 : Int32)) d_M_advances_187 (by decide) (go_goto 192 d_M_advances_188 rfl B)) ?_
  exact p_M_advances_192 F _ _ _ r hyp
set_option maxHeartbeats 4000000 in
set_option maxRecDepth 200000 in
theorem p_M_advances_138 (F : Nat) {h0 : MH} (s0 : Option Nat) (s1 : Int32) (h : MH) (r : MH) : b_M_advances_138 F  s0 s1 h = some r → Rt mi_M_advances 2 h0 138 [] [.int s1, va_rf s0] h none r := by
  intro hyp
  unfold b_M_advances_138 at hyp
  obtain ⟨h1, e2, hyp⟩ := Option.bind_eq_some_iff.mp hyp
  refine rt_st (pc1 := 195) (fun _ _ B => go_pfi d_M_advances_138 fd_11_4 w993 (fun q => by cases q) e2 (go_goto 195 d_M_advances_141 rfl B)) ?_
  exact rt_eq0 hyp (rt_void d_M_advances_195 rfl)
set_option maxHeartbeats 4000000 in
set_option maxRecDepth 200000 in
theorem p_M_advances_103 (F : Nat) {h0 : MH} (k45 : (Option Nat) → MH → (Option MH)) (hk45 : ∀ (v0 : Option Nat) (h : MH) (r : MH), k45 v0 h = some r → Rt mi_M_advances 2 h0 45 [(0, va_rf v0)] [] h none r) (v0 : Option Nat) (s0 : Option Nat) (s1 : Int32) (h : MH) (r : MH) : b_M_advances_103 F k45  v0 s0 s1 h = some r → Rt mi_M_advances 2 h0 103 [(0, va_rf v0)] [.int s1, va_rf s0] h none r := by
  intro hyp
  unfold b_M_advances_103 at hyp
  obtain ⟨h1, e2, hyp⟩ := Option.bind_eq_some_iff.mp hyp
  obtain ⟨x3, e4, hyp⟩ := Option.bind_eq_some_iff.mp hyp
  obtain ⟨h5, e6, hyp⟩ := Option.bind_eq_some_iff.mp hyp
  refine rt_st (pc1 := 45) (fun _ _ B => go_pfi d_M_advances_103 fd_11_6 w995 (fun q => by cases q) e2 (go_aload_n 0 d_M_advances_106 rfl (go_dup d_M_advances_107 (mj_rfc _) (go_gfi d_M_advances_108 fd_11_3 w992 e4 (go_iconst (v := (1 : Int32)) d_M_advances_111 (by decide) (go_iadd d_M_advances_112 (go_pfi d_M_advances_113 fd_11_3 w992 (fun q => by cases q) e6 (go_goto 45 d_M_advances_116 rfl B)))))))) ?_
  exact hk45 _ _ _ hyp
set_option maxHeartbeats 4000000 in
set_option maxRecDepth 200000 in
theorem p_M_advances_45 (F : Nat) {h0 : MH} : ∀ (n : Nat) (v0 : Option Nat) (h : MH) (r : MH), b_M_advances_45 F  n v0 h = some r → Rt mi_M_advances 2 h0 45 [(0, va_rf v0)] [] h none r := by
  intro n
  induction n with
  | zero =>
    intro v0 h r hyp
    cases hyp
  | succ n ih =>
    intro v0 h r hyp
    unfold b_M_advances_45 at hyp
    obtain ⟨x1, e2, hyp⟩ := Option.bind_eq_some_iff.mp hyp
    obtain ⟨x3, e4, hyp⟩ := Option.bind_eq_some_iff.mp hyp
    refine rt_st (pc1 := 60) (fun _ _ B => go_aload_n 0 d_M_advances_45 rfl (go_aload_n 0 d_M_advances_46 rfl (go_gfi d_M_advances_47 fd_11_3 w992 e2 (go_callV1 (q := q_11) (st := []) [.int x1] (t_M_letterAt v0 x1 h _ (onc_spec e4).2) mm_M_letterAt (by decide) d_M_advances_50 (onc_spec e4).1 rfl rfl w1118 w1120 w33 rfl (Nat.le_of_ble_eq_true rfl) rfl (go_bipush (v := (48 : Int32)) d_M_advances_53 (by decide) (go_bipush (v := (57 : Int32)) d_M_advances_55 (by decide) (go_callS1 (st := []) [.int x3, .int (48 : Int32), .int (57 : Int32)] (t_M_in x3 (48 : Int32) (57 : Int32) h) mm_M_in (by decide) d_M_advances_57 w1073 w1074 rfl (Nat.le_of_ble_eq_true rfl) rfl B))))))) ?_
    by_cases c5 : (f_M_in x3 (48 : Int32) (57 : Int32)) = 0
    · replace hyp := (if_pos c5).symm.trans hyp
      obtain ⟨x6, e7, hyp⟩ := Option.bind_eq_some_iff.mp hyp
      obtain ⟨x8, e9, hyp⟩ := Option.bind_eq_some_iff.mp hyp
      refine rt_st (pc1 := 130) (fun _ _ B => go_if_eq_t 119 d_M_advances_60 rfl c5 (go_aload_n 0 d_M_advances_119 rfl (go_aload_n 0 d_M_advances_120 rfl (go_gfi d_M_advances_121 fd_11_3 w992 e7 (go_aload_n 0 d_M_advances_124 rfl (go_gfi d_M_advances_125 fd_11_5 w994 e9 (go_isub d_M_advances_128 (go_iconst (v := (2 : Int32)) d_M_advances_129 (by decide) B)))))))) ?_
      by_cases c10 : (x6 - x8) ≤ (2 : Int32)
      · replace hyp := (if_pos c10).symm.trans hyp
        refine rt_st (pc1 := 138) (fun _ _ B => go_icmp_le_t 137 d_M_advances_130 rfl c10 (go_iconst (v := (2 : Int32)) d_M_advances_137 (by decide) B)) ?_
        refine rt_sub [] (lv1 := []) rfl ?_
        exact p_M_advances_138 F _ _ _ r hyp
      · replace hyp := (if_neg c10).symm.trans hyp
        refine rt_st (pc1 := 138) (fun _ _ B => go_icmp_le_f d_M_advances_130 rfl c10 (go_iconst (v := (4 : Int32)) d_M_advances_133 (by decide) (go_goto 138 d_M_advances_134 rfl B))) ?_
        refine rt_sub [] (lv1 := []) rfl ?_
        exact p_M_advances_138 F _ _ _ r hyp
    · replace hyp := (if_neg c5).symm.trans hyp
      obtain ⟨x11, e12, hyp⟩ := Option.bind_eq_some_iff.mp hyp
      obtain ⟨x13, e14, hyp⟩ := Option.bind_eq_some_iff.mp hyp
      refine rt_st (pc1 := 74) (fun _ _ B => go_if_eq_f d_M_advances_60 rfl c5 (go_aload_n 0 d_M_advances_63 rfl (go_aload_n 0 d_M_advances_64 rfl (go_gfi d_M_advances_65 fd_11_3 w992 e12 (go_aload_n 0 d_M_advances_68 rfl (go_gfi d_M_advances_69 fd_11_5 w994 e14 (go_isub d_M_advances_72 (go_iconst (v := (2 : Int32)) d_M_advances_73 (by decide) B)))))))) ?_
      by_cases c15 : (2 : Int32) ≤ (x11 - x13)
      · replace hyp := (if_pos c15).symm.trans hyp
        obtain ⟨x16, e17, hyp⟩ := Option.bind_eq_some_iff.mp hyp
        refine rt_st (pc1 := 103) (fun _ _ B => go_icmp_ge_t 99 d_M_advances_74 rfl c15 (go_aload_n 0 d_M_advances_99 rfl (go_gfi d_M_advances_100 fd_11_6 w995 e17 B))) ?_
        exact p_M_advances_103 F (b_M_advances_45 F n) (fun a0 a1 r hyp => ih a0 a1 r hyp) _ _ _ _ r hyp
      · replace hyp := (if_neg c15).symm.trans hyp
        obtain ⟨x18, e19, hyp⟩ := Option.bind_eq_some_iff.mp hyp
        obtain ⟨x20, e21, hyp⟩ := Option.bind_eq_some_iff.mp hyp
        obtain ⟨x22, e23, hyp⟩ := Option.bind_eq_some_iff.mp hyp
        refine rt_st (pc1 := 103) (fun _ _ B => go_icmp_ge_f d_M_advances_74 rfl c15 (go_bipush (v := (10 : Int32)) d_M_advances_77 (by decide) (go_aload_n 0 d_M_advances_79 rfl (go_gfi d_M_advances_80 fd_11_6 w995 e19 (go_imul d_M_advances_83 (go_aload_n 0 d_M_advances_84 rfl (go_aload_n 0 d_M_advances_85 rfl (go_gfi d_M_advances_86 fd_11_3 w992 e21 (go_callV1 (q := q_11) (st := [.int ((10 : Int32) * x18), va_rf v0]) [.int x20] (t_M_letterAt v0 x20 h _ (onc_spec e23).2) mm_M_letterAt (by decide) d_M_advances_89 (onc_spec e23).1 rfl rfl w1118 w1120 w33 rfl (Nat.le_of_ble_eq_true rfl) rfl (go_iadd d_M_advances_92 (go_bipush (v := (48 : Int32)) d_M_advances_93 (by decide) (go_isub d_M_advances_95 (go_goto 103 d_M_advances_96 rfl B))))))))))))) ?_
        exact p_M_advances_103 F (b_M_advances_45 F n) (fun a0 a1 r hyp => ih a0 a1 r hyp) _ _ _ _ r hyp
set_option maxHeartbeats 4000000 in
set_option maxRecDepth 200000 in
theorem t_M_advances (F : Nat) (v0 : Option Nat) (h : MH) (r : MH) (hyp : f_M_advances F v0 h = some r) : Mt mi_M_advances 2 [va_rf v0] h none r := by
  refine Mt.rt (lv := [(0, va_rf v0)]) (by decide +kernel) (by simp [lv_args, mj_rfc, mj_cti, mj_ctl]) (by simp [mj_rfc, mj_cti, mj_ctl]) ?_
  unfold f_M_advances at hyp
  obtain ⟨x1, e2, hyp⟩ := Option.bind_eq_some_iff.mp hyp
  obtain ⟨h3, e4, hyp⟩ := Option.bind_eq_some_iff.mp hyp
  obtain ⟨x5, e6, hyp⟩ := Option.bind_eq_some_iff.mp hyp
  obtain ⟨x7, e8, hyp⟩ := Option.bind_eq_some_iff.mp hyp
  refine rt_st (pc1 := 18) (fun _ _ B => go_aload_n 0 d_M_advances_0 rfl (go_aload_n 0 d_M_advances_1 rfl (go_gfi d_M_advances_2 fd_11_3 w992 e2 (go_pfi d_M_advances_5 fd_11_5 w994 (fun q => by cases q) e4 (go_aload_n 0 d_M_advances_8 rfl (go_aload_n 0 d_M_advances_9 rfl (go_gfi d_M_advances_10 fd_11_3 w992 e6 (go_callV1 (q := q_11) (st := []) [.int x5] (t_M_letterAt v0 x5 h3 _ (onc_spec e8).2) mm_M_letterAt (by decide) d_M_advances_13 (onc_spec e8).1 rfl rfl w1118 w1120 w33 rfl (Nat.le_of_ble_eq_true rfl) rfl (go_istore_n (lv1 := [(1, .int x7), (0, va_rf v0)]) d_M_advances_16 (by decide) (by first | (simp [mj_s1, mj_s2, mj_rfc, mj_cti, mj_ctl]; done) | (simp [mj_s1, mj_s2, mj_rfc, mj_cti, mj_ctl]; decide)) (go_iload_n 0 d_M_advances_17 rfl B)))))))))) ?_
  by_cases c9 : 0 ≤ x7
  · replace hyp := (if_pos c9).symm.trans hyp
    refine rt_st (pc1 := 37) (fun _ _ B => go_if_ge_t 29 d_M_advances_18 rfl c9 (go_iload_n 0 d_M_advances_29 rfl (go_bipush (v := (48 : Int32)) d_M_advances_30 (by decide) (go_bipush (v := (57 : Int32)) d_M_advances_32 (by decide) (go_callS1 (st := []) [.int x7, .int (48 : Int32), .int (57 : Int32)] (t_M_in x7 (48 : Int32) (57 : Int32) h3) mm_M_in (by decide) d_M_advances_34 w1073 w1074 rfl (Nat.le_of_ble_eq_true rfl) rfl B))))) ?_
    by_cases c10 : (f_M_in x7 (48 : Int32) (57 : Int32)) = 0
    · replace hyp := (if_pos c10).symm.trans hyp
      obtain ⟨x11, e12, hyp⟩ := Option.bind_eq_some_iff.mp hyp
      obtain ⟨h13, e14, hyp⟩ := Option.bind_eq_some_iff.mp hyp
      obtain ⟨h15, e16, hyp⟩ := Option.bind_eq_some_iff.mp hyp
      refine rt_st (pc1 := 168) (fun _ _ B => go_if_eq_t 144 d_M_advances_37 rfl c10 (go_aload_n 1 d_M_advances_144 rfl (go_dup d_M_advances_145 (mj_rfc _) (go_gfi d_M_advances_146 fd_11_3 w992 e12 (go_iconst (v := (1 : Int32)) d_M_advances_149 (by decide) (go_iadd d_M_advances_150 (go_pfi d_M_advances_151 fd_11_3 w992 (fun q => by cases q) e14 (go_aload_n 1 d_M_advances_154 rfl (go_iload_n 0 d_M_advances_155 rfl (go_pfi d_M_advances_156 fd_11_6 w995 (fun q => by cases q) e16 (go_aload_n 1 d_M_advances_159 rfl (go_iload_n 0 d_M_advances_160 rfl (go_bipush (v := (97 : Int32)) d_M_advances_161 (by decide) (go_bipush (v := (122 : Int32)) d_M_advances_163 (by decide) (go_callS1 (st := [va_rf v0]) [.int x7, .int (97 : Int32), .int (122 : Int32)] (t_M_in x7 (97 : Int32) (122 : Int32) h15) mm_M_in (by decide) d_M_advances_165 w1073 w1074 rfl (Nat.le_of_ble_eq_true rfl) rfl B))))))))))))))) ?_
      by_cases c17 : (f_M_in x7 (97 : Int32) (122 : Int32)) = 0
      · replace hyp := (if_pos c17).symm.trans hyp
        refine rt_st (pc1 := 178) (fun _ _ B => go_if_eq_t 175 d_M_advances_168 rfl c17 (go_iload_n 0 d_M_advances_175 rfl (go_bipush (v := (44 : Int32)) d_M_advances_176 (by decide) B))) ?_
        by_cases c18 : x7 = (44 : Int32)
        · replace hyp := (if_pos c18).symm.trans hyp
          refine rt_st (pc1 := 187) (fun _ _ B => go_icmp_eq_t 187 d_M_advances_178 rfl c18 B) ?_
          refine rt_sub [] (lv1 := []) rfl ?_
          exact p_M_advances_187 F _ _ r hyp
        · replace hyp := (if_neg c18).symm.trans hyp
          refine rt_st (pc1 := 184) (fun _ _ B => go_icmp_eq_f d_M_advances_178 rfl c18 (go_iload_n 0 d_M_advances_181 rfl (go_bipush (v := (59 : Int32)) d_M_advances_182 (by decide) B))) ?_
          by_cases c19 : x7 = (59 : Int32)
          · replace hyp := (if_pos c19).symm.trans hyp
            refine rt_st (pc1 := 187) (fun _ _ B => go_icmp_ne_f d_M_advances_184 rfl c19 B) ?_
            refine rt_sub [] (lv1 := []) rfl ?_
            exact p_M_advances_187 F _ _ r hyp
          · replace hyp := (if_neg c19).symm.trans hyp
            refine rt_st (pc1 := 192) (fun _ _ B => go_icmp_ne_t 191 d_M_advances_184 rfl c19 (go_iconst (v := (4 : Int32)) d_M_advances_191 (by decide) B)) ?_
            refine rt_sub [] (lv1 := []) rfl ?_
            exact p_M_advances_192 F _ _ _ r hyp
      · replace hyp := (if_neg c17).symm.trans hyp
        refine rt_st (pc1 := 192) (fun _ _ B => go_if_eq_f d_M_advances_168 rfl c17 (go_iconst (v := (1 : Int32)) d_M_advances_171 (by decide) (go_goto 192 d_M_advances_172 rfl B))) ?_
        refine rt_sub [] (lv1 := []) rfl ?_
        exact p_M_advances_192 F _ _ _ r hyp
    · replace hyp := (if_neg c10).symm.trans hyp
      obtain ⟨h20, e21, hyp⟩ := Option.bind_eq_some_iff.mp hyp
      refine rt_st (pc1 := 45) (fun _ _ B => go_if_eq_f d_M_advances_37 rfl c10 (go_aload_n 1 d_M_advances_40 rfl (go_iconst (v := (0 : Int32)) d_M_advances_41 (by decide) (go_pfi d_M_advances_42 fd_11_6 w995 (fun q => by cases q) e21 B)))) ?_
      refine rt_sub [1] (lv1 := [(0, va_rf v0)]) rfl ?_
      exact p_M_advances_45 F F _ _ r hyp
  · replace hyp := (if_neg c9).symm.trans hyp
    obtain ⟨h22, e23, hyp⟩ := Option.bind_eq_some_iff.mp hyp
    refine rt_st (pc1 := 195) (fun _ _ B => go_if_ge_f d_M_advances_18 rfl c9 (go_aload_n 1 d_M_advances_21 rfl (go_iconst (v := (0 : Int32)) d_M_advances_22 (by decide) (go_pfi d_M_advances_23 fd_11_4 w993 (fun q => by cases q) e23 (go_goto 195 d_M_advances_26 rfl B))))) ?_
    exact rt_eq0 hyp (rt_void d_M_advances_195 rfl)
/-! WideTurnModel.isWell()Z -/
def f_M_isWell (v0 : Option Nat) (h : MH) : Option (Int32) :=
  Option.bind (gfi h v0 [11] 7) fun x1 =>
  if x1 = 0 then
    some (1 : Int32)
  else
    some (0 : Int32)
set_option maxHeartbeats 4000000 in
set_option maxRecDepth 200000 in
theorem t_M_isWell (v0 : Option Nat) (h : MH) (r : (Int32)) (hyp : f_M_isWell v0 h = some r) : Mt mi_M_isWell 1 [va_rf v0] h (some (.int r)) h := by
  refine Mt.rt (lv := [(0, va_rf v0)]) (by decide +kernel) (by simp [lv_args, mj_rfc, mj_cti, mj_ctl]) (by simp [mj_rfc, mj_cti, mj_ctl]) ?_
  unfold f_M_isWell at hyp
  obtain ⟨x1, e2, hyp⟩ := Option.bind_eq_some_iff.mp hyp
  refine rt_st (pc1 := 4) (fun _ _ B => go_aload_n 0 d_M_isWell_0 rfl (go_gfi d_M_isWell_1 fd_11_7 w996 e2 B)) ?_
  by_cases c3 : x1 = 0
  · replace hyp := (if_pos c3).symm.trans hyp
    refine rt_st (pc1 := 12) (fun _ _ B => go_if_ne_f d_M_isWell_4 rfl c3 (go_iconst (v := (1 : Int32)) d_M_isWell_7 (by decide) (go_goto 12 d_M_isWell_8 rfl B))) ?_
    exact rt_eqR Value.int hyp (rt_bool d_M_isWell_12 rfl (by decide))
  · replace hyp := (if_neg c3).symm.trans hyp
    refine rt_st (pc1 := 12) (fun _ _ B => go_if_ne_t 11 d_M_isWell_4 rfl c3 (go_iconst (v := (0 : Int32)) d_M_isWell_11 (by decide) B)) ?_
    exact rt_eqR Value.int hyp (rt_bool d_M_isWell_12 rfl (by decide))
/-! WideTurnModel.fails(I)V -/
def f_M_fails (v0 : Option Nat) (v1 : Int32) (h : MH) : Option MH :=
  Option.bind (onc h v0 11 (f_M_isWell v0 h)) fun x1 =>
  if x1 = 0 then
    some h
  else
    Option.bind (pfv h v0 [11] 7 (.int v1)) fun h4 =>
    Option.bind (gfi h4 v0 [11] 5) fun x6 =>
    Option.bind (pfv h4 v0 [11] 8 (.int x6)) fun h8 =>
    some h8
set_option maxHeartbeats 4000000 in
set_option maxRecDepth 200000 in
theorem t_M_fails (v0 : Option Nat) (v1 : Int32) (h : MH) (r : MH) (hyp : f_M_fails v0 v1 h = some r) : Mt mi_M_fails 2 [va_rf v0, .int v1] h none r := by
  refine Mt.rt (lv := [(0, va_rf v0), (1, .int v1)]) (by decide +kernel) (by simp [lv_args, mj_rfc, mj_cti, mj_ctl]) (by simp [mj_rfc, mj_cti, mj_ctl]) ?_
  unfold f_M_fails at hyp
  obtain ⟨x1, e2, hyp⟩ := Option.bind_eq_some_iff.mp hyp
  refine rt_st (pc1 := 4) (fun _ _ B => go_aload_n 0 d_M_fails_0 rfl (go_callV1 (q := q_11) (st := []) [] (t_M_isWell v0 h _ (onc_spec e2).2) mm_M_isWell (by decide) d_M_fails_1 (onc_spec e2).1 rfl rfl w1134 w1136 w37 rfl (Nat.le_of_ble_eq_true rfl) rfl B)) ?_
  by_cases c3 : x1 = 0
  · replace hyp := (if_pos c3).symm.trans hyp
    refine rt_st (pc1 := 20) (fun _ _ B => go_if_eq_t 20 d_M_fails_4 rfl c3 B) ?_
    exact rt_eq0 hyp (rt_void d_M_fails_20 rfl)
  · replace hyp := (if_neg c3).symm.trans hyp
    obtain ⟨h4, e5, hyp⟩ := Option.bind_eq_some_iff.mp hyp
    obtain ⟨x6, e7, hyp⟩ := Option.bind_eq_some_iff.mp hyp
    obtain ⟨h8, e9, hyp⟩ := Option.bind_eq_some_iff.mp hyp
    refine rt_st (pc1 := 20) (fun _ _ B => go_if_eq_f d_M_fails_4 rfl c3 (go_aload_n 0 d_M_fails_7 rfl (go_iload_n 1 d_M_fails_8 rfl (go_pfi d_M_fails_9 fd_11_7 w996 (fun q => by cases q) e5 (go_aload_n 0 d_M_fails_12 rfl (go_aload_n 0 d_M_fails_13 rfl (go_gfi d_M_fails_14 fd_11_5 w994 e7 (go_pfi d_M_fails_17 fd_11_8 w997 (fun q => by cases q) e9 B)))))))) ?_
    exact rt_eq0 hyp (rt_void d_M_fails_20 rfl)
/-! WideTurnModel.wants(II)V -/
def b_M_wants_21 (F : Nat) : (Option Nat) → (MH) → (Option MH) := fun v0 h => 
  Option.bind (onc h v0 11 (f_M_isWell v0 h)) fun x1 =>
  if x1 = 0 then
    some h
  else
    Option.bind (onc h v0 11 (f_M_advances F v0 h)) fun h4 =>
    some h4
def b_M_wants_16 (F : Nat) : (Option Nat) → (MH) → (Option MH) := fun v0 h => 
  Option.bind (onc h v0 11 (f_M_fails v0 (1 : Int32) h)) fun h1 =>
  b_M_wants_21 F v0 h1
def f_M_wants (F : Nat) (v0 : Option Nat) (v1 : Int32) (v2 : Int32) (h : MH) : Option MH :=
  Option.bind (gfi h v0 [11] 4) fun x1 =>
  if x1 = v1 then
    Option.bind (gfi h v0 [11] 6) fun x4 =>
    if x4 = v2 then
      b_M_wants_21 F v0 h
    else
      b_M_wants_16 F v0 h
  else
    b_M_wants_16 F v0 h
set_option maxHeartbeats 4000000 in
set_option maxRecDepth 200000 in
theorem p_M_wants_21 (F : Nat) {h0 : MH} (v0 : Option Nat) (h : MH) (r : MH) : b_M_wants_21 F  v0 h = some r → Rt mi_M_wants 3 h0 21 [(0, va_rf v0)] [] h none r := by
  intro hyp
  unfold b_M_wants_21 at hyp
  obtain ⟨x1, e2, hyp⟩ := Option.bind_eq_some_iff.mp hyp
  refine rt_st (pc1 := 25) (fun _ _ B => go_aload_n 0 d_M_wants_21 rfl (go_callV1 (q := q_11) (st := []) [] (t_M_isWell v0 h _ (onc_spec e2).2) mm_M_isWell (by decide) d_M_wants_22 (onc_spec e2).1 rfl rfl w1134 w1136 w37 rfl (Nat.le_of_ble_eq_true rfl) rfl B)) ?_
  by_cases c3 : x1 = 0
  · replace hyp := (if_pos c3).symm.trans hyp
    refine rt_st (pc1 := 32) (fun _ _ B => go_if_eq_t 32 d_M_wants_25 rfl c3 B) ?_
    exact rt_eq0 hyp (rt_void d_M_wants_32 rfl)
  · replace hyp := (if_neg c3).symm.trans hyp
    obtain ⟨h4, e5, hyp⟩ := Option.bind_eq_some_iff.mp hyp
    refine rt_st (pc1 := 32) (fun _ _ B => go_if_eq_f d_M_wants_25 rfl c3 (go_aload_n 0 d_M_wants_28 rfl (go_callV0 (q := q_11) (st := []) [] (t_M_advances F v0 h _ (onc_spec e5).2) mm_M_advances (by decide) d_M_wants_29 (onc_spec e5).1 rfl rfl w1114 w1116 w32 rfl (Nat.le_of_ble_eq_true rfl) rfl B))) ?_
    exact rt_eq0 hyp (rt_void d_M_wants_32 rfl)
set_option maxHeartbeats 4000000 in
set_option maxRecDepth 200000 in
theorem p_M_wants_16 (F : Nat) {h0 : MH} (v0 : Option Nat) (h : MH) (r : MH) : b_M_wants_16 F  v0 h = some r → Rt mi_M_wants 3 h0 16 [(0, va_rf v0)] [] h none r := by
  intro hyp
  unfold b_M_wants_16 at hyp
  obtain ⟨h1, e2, hyp⟩ := Option.bind_eq_some_iff.mp hyp
  refine rt_st (pc1 := 21) (fun _ _ B => go_aload_n 0 d_M_wants_16 rfl (go_iconst (v := (1 : Int32)) d_M_wants_17 (by decide) (go_callV0 (q := q_11) (st := []) [.int (1 : Int32)] (t_M_fails v0 (1 : Int32) h _ (onc_spec e2).2) mm_M_fails (by decide) d_M_wants_18 (onc_spec e2).1 rfl rfl w1130 w1132 w36 rfl (Nat.le_of_ble_eq_true rfl) rfl B))) ?_
  exact p_M_wants_21 F _ _ r hyp
set_option maxHeartbeats 4000000 in
set_option maxRecDepth 200000 in
theorem t_M_wants (F : Nat) (v0 : Option Nat) (v1 : Int32) (v2 : Int32) (h : MH) (r : MH) (hyp : f_M_wants F v0 v1 v2 h = some r) : Mt mi_M_wants 3 [va_rf v0, .int v1, .int v2] h none r := by
  refine Mt.rt (lv := [(0, va_rf v0), (1, .int v1), (2, .int v2)]) (by decide +kernel) (by simp [lv_args, mj_rfc, mj_cti, mj_ctl]) (by simp [mj_rfc, mj_cti, mj_ctl]) ?_
  unfold f_M_wants at hyp
  obtain ⟨x1, e2, hyp⟩ := Option.bind_eq_some_iff.mp hyp
  refine rt_st (pc1 := 5) (fun _ _ B => go_aload_n 0 d_M_wants_0 rfl (go_gfi d_M_wants_1 fd_11_4 w993 e2 (go_iload_n 1 d_M_wants_4 rfl B))) ?_
  by_cases c3 : x1 = v1
  · replace hyp := (if_pos c3).symm.trans hyp
    obtain ⟨x4, e5, hyp⟩ := Option.bind_eq_some_iff.mp hyp
    refine rt_st (pc1 := 13) (fun _ _ B => go_icmp_ne_f d_M_wants_5 rfl c3 (go_aload_n 0 d_M_wants_8 rfl (go_gfi d_M_wants_9 fd_11_6 w995 e5 (go_iload_n 2 d_M_wants_12 rfl B)))) ?_
    by_cases c6 : x4 = v2
    · replace hyp := (if_pos c6).symm.trans hyp
      refine rt_st (pc1 := 21) (fun _ _ B => go_icmp_eq_t 21 d_M_wants_13 rfl c6 B) ?_
      refine rt_sub [0] (lv1 := [(0, va_rf v0)]) rfl ?_
      exact p_M_wants_21 F _ _ r hyp
    · replace hyp := (if_neg c6).symm.trans hyp
      refine rt_st (pc1 := 16) (fun _ _ B => go_icmp_eq_f d_M_wants_13 rfl c6 B) ?_
      refine rt_sub [0] (lv1 := [(0, va_rf v0)]) rfl ?_
      exact p_M_wants_16 F _ _ r hyp
  · replace hyp := (if_neg c3).symm.trans hyp
    refine rt_st (pc1 := 16) (fun _ _ B => go_icmp_ne_t 16 d_M_wants_5 rfl c3 B) ?_
    refine rt_sub [0] (lv1 := [(0, va_rf v0)]) rfl ?_
    exact p_M_wants_16 F _ _ r hyp
/-! WideTurnModel.number(IIZ)I -/
def b_M_number_52 (F : Nat) : (Option Nat) → (Int32) → (MH) → (Option (Int32 × MH)) := fun v0 s0 h => 
  Option.bind (onc h v0 11 (f_M_isWell v0 h)) fun x1 =>
  if x1 = 0 then
    some (s0, h)
  else
    Option.bind (onc h v0 11 (f_M_advances F v0 h)) fun h4 =>
    some (s0, h4)
def b_M_number_37 (F : Nat) : (Option Nat) → (Int32) → (MH) → (Option (Int32 × MH)) := fun v0 v1 h => 
  Option.bind (onc h v0 11 (f_M_isWell v0 h)) fun x1 =>
  if x1 = 0 then
    b_M_number_52 F v0 v1 h
  else
    Option.bind (gfi h v0 [11] 6) fun x4 =>
    b_M_number_52 F v0 x4 h
def b_M_number_32 (F : Nat) : (Option Nat) → (Int32) → (MH) → (Option (Int32 × MH)) := fun v0 v1 h => 
  Option.bind (onc h v0 11 (f_M_fails v0 (2 : Int32) h)) fun h1 =>
  b_M_number_37 F v0 v1 h1
def f_M_number (F : Nat) (v0 : Option Nat) (v1 : Int32) (v2 : Int32) (v3 : Int32) (h : MH) : Option (Int32 × MH) :=
  Option.bind (gfi h v0 [11] 4) fun x1 =>
  if x1 = (2 : Int32) then
    Option.bind (gfi h v0 [11] 6) fun x4 =>
    if (f_M_in x4 v1 v2) = 0 then
      b_M_number_32 F v0 v1 h
    else
      if v3 = 0 then
        b_M_number_37 F v0 v1 h
      else
        b_M_number_32 F v0 v1 h
  else
    Option.bind (onc h v0 11 (f_M_fails v0 (1 : Int32) h)) fun h8 =>
    b_M_number_37 F v0 v1 h8
set_option maxHeartbeats 4000000 in
set_option maxRecDepth 200000 in
theorem p_M_number_52 (F : Nat) {h0 : MH} (v0 : Option Nat) (s0 : Int32) (h : MH) (r : (Int32 × MH)) : b_M_number_52 F  v0 s0 h = some r → Rt mi_M_number 3 h0 52 [(0, va_rf v0)] [.int s0] h (some (.int r.1)) r.2 := by
  intro hyp
  unfold b_M_number_52 at hyp
  obtain ⟨x1, e2, hyp⟩ := Option.bind_eq_some_iff.mp hyp
  refine rt_st (pc1 := 58) (fun _ _ B => go_istore (lv1 := [(4, .int s0), (0, va_rf v0)]) d_M_number_52 (by decide) rfl (go_aload_n 1 d_M_number_54 rfl (go_callV1 (q := q_11) (st := []) [] (t_M_isWell v0 h _ (onc_spec e2).2) mm_M_isWell (by decide) d_M_number_55 (onc_spec e2).1 rfl rfl w1134 w1136 w37 rfl (Nat.le_of_ble_eq_true rfl) rfl B))) ?_
  by_cases c3 : x1 = 0
  · replace hyp := (if_pos c3).symm.trans hyp
    refine rt_st (pc1 := 67) (fun _ _ B => go_if_eq_t 65 d_M_number_58 rfl c3 (go_iload 0 d_M_number_65 rfl B)) ?_
    exact rt_eqW Value.int hyp (rt_int d_M_number_67 rfl)
  · replace hyp := (if_neg c3).symm.trans hyp
    obtain ⟨h4, e5, hyp⟩ := Option.bind_eq_some_iff.mp hyp
    refine rt_st (pc1 := 67) (fun _ _ B => go_if_eq_f d_M_number_58 rfl c3 (go_aload_n 1 d_M_number_61 rfl (go_callV0 (q := q_11) (st := []) [] (t_M_advances F v0 h _ (onc_spec e5).2) mm_M_advances (by decide) d_M_number_62 (onc_spec e5).1 rfl rfl w1114 w1116 w32 rfl (Nat.le_of_ble_eq_true rfl) rfl (go_iload 0 d_M_number_65 rfl B)))) ?_
    exact rt_eqW Value.int hyp (rt_int d_M_number_67 rfl)
set_option maxHeartbeats 4000000 in
set_option maxRecDepth 200000 in
theorem p_M_number_37 (F : Nat) {h0 : MH} (v0 : Option Nat) (v1 : Int32) (h : MH) (r : (Int32 × MH)) : b_M_number_37 F  v0 v1 h = some r → Rt mi_M_number 3 h0 37 [(0, va_rf v0), (1, .int v1)] [] h (some (.int r.1)) r.2 := by
  intro hyp
  unfold b_M_number_37 at hyp
  obtain ⟨x1, e2, hyp⟩ := Option.bind_eq_some_iff.mp hyp
  refine rt_st (pc1 := 41) (fun _ _ B => go_aload_n 0 d_M_number_37 rfl (go_callV1 (q := q_11) (st := []) [] (t_M_isWell v0 h _ (onc_spec e2).2) mm_M_isWell (by decide) d_M_number_38 (onc_spec e2).1 rfl rfl w1134 w1136 w37 rfl (Nat.le_of_ble_eq_true rfl) rfl B)) ?_
  by_cases c3 : x1 = 0
  · replace hyp := (if_pos c3).symm.trans hyp
    refine rt_st (pc1 := 52) (fun _ _ B => go_if_eq_t 51 d_M_number_41 rfl c3 (go_iload_n 1 d_M_number_51 rfl B)) ?_
    refine rt_sub [0] (lv1 := [(0, va_rf v0)]) rfl ?_
    exact p_M_number_52 F _ _ _ r hyp
  · replace hyp := (if_neg c3).symm.trans hyp
    obtain ⟨x4, e5, hyp⟩ := Option.bind_eq_some_iff.mp hyp
    refine rt_st (pc1 := 52) (fun _ _ B => go_if_eq_f d_M_number_41 rfl c3 (go_aload_n 0 d_M_number_44 rfl (go_gfi d_M_number_45 fd_11_6 w995 e5 (go_goto 52 d_M_number_48 rfl B)))) ?_
    refine rt_sub [0] (lv1 := [(0, va_rf v0)]) rfl ?_
    exact p_M_number_52 F _ _ _ r hyp
set_option maxHeartbeats 4000000 in
set_option maxRecDepth 200000 in
theorem p_M_number_32 (F : Nat) {h0 : MH} (v0 : Option Nat) (v1 : Int32) (h : MH) (r : (Int32 × MH)) : b_M_number_32 F  v0 v1 h = some r → Rt mi_M_number 3 h0 32 [(0, va_rf v0), (1, .int v1)] [] h (some (.int r.1)) r.2 := by
  intro hyp
  unfold b_M_number_32 at hyp
  obtain ⟨h1, e2, hyp⟩ := Option.bind_eq_some_iff.mp hyp
  refine rt_st (pc1 := 37) (fun _ _ B => go_aload_n 0 d_M_number_32 rfl (go_iconst (v := (2 : Int32)) d_M_number_33 (by decide) (go_callV0 (q := q_11) (st := []) [.int (2 : Int32)] (t_M_fails v0 (2 : Int32) h _ (onc_spec e2).2) mm_M_fails (by decide) d_M_number_34 (onc_spec e2).1 rfl rfl w1130 w1132 w36 rfl (Nat.le_of_ble_eq_true rfl) rfl B))) ?_
  exact p_M_number_37 F _ _ _ r hyp
set_option maxHeartbeats 4000000 in
set_option maxRecDepth 200000 in
theorem t_M_number (F : Nat) (v0 : Option Nat) (v1 : Int32) (v2 : Int32) (v3 : Int32) (h : MH) (r : (Int32 × MH)) (hyp : f_M_number F v0 v1 v2 v3 h = some r) : Mt mi_M_number 3 [va_rf v0, .int v1, .int v2, .int v3] h (some (.int r.1)) r.2 := by
  refine Mt.rt (lv := [(0, va_rf v0), (1, .int v1), (2, .int v2), (3, .int v3)]) (by decide +kernel) (by simp [lv_args, mj_rfc, mj_cti, mj_ctl]) (by simp [mj_rfc, mj_cti, mj_ctl]) ?_
  unfold f_M_number at hyp
  obtain ⟨x1, e2, hyp⟩ := Option.bind_eq_some_iff.mp hyp
  refine rt_st (pc1 := 5) (fun _ _ B => go_aload_n 0 d_M_number_0 rfl (go_gfi d_M_number_1 fd_11_4 w993 e2 (go_iconst (v := (2 : Int32)) d_M_number_4 (by decide) B))) ?_
  by_cases c3 : x1 = (2 : Int32)
  · replace hyp := (if_pos c3).symm.trans hyp
    obtain ⟨x4, e5, hyp⟩ := Option.bind_eq_some_iff.mp hyp
    refine rt_st (pc1 := 25) (fun _ _ B => go_icmp_eq_t 16 d_M_number_5 rfl c3 (go_aload_n 0 d_M_number_16 rfl (go_gfi d_M_number_17 fd_11_6 w995 e5 (go_iload_n 1 d_M_number_20 rfl (go_iload_n 2 d_M_number_21 rfl (go_callS1 (st := []) [.int x4, .int v1, .int v2] (t_M_in x4 v1 v2 h) mm_M_in (by decide) d_M_number_22 w1073 w1074 rfl (Nat.le_of_ble_eq_true rfl) rfl B)))))) ?_
    by_cases c6 : (f_M_in x4 v1 v2) = 0
    · replace hyp := (if_pos c6).symm.trans hyp
      refine rt_st (pc1 := 32) (fun _ _ B => go_if_eq_t 32 d_M_number_25 rfl c6 B) ?_
      refine rt_sub [0, 1] (lv1 := [(0, va_rf v0), (1, .int v1)]) rfl ?_
      exact p_M_number_32 F _ _ _ r hyp
    · replace hyp := (if_neg c6).symm.trans hyp
      refine rt_st (pc1 := 29) (fun _ _ B => go_if_eq_f d_M_number_25 rfl c6 (go_iload_n 3 d_M_number_28 rfl B)) ?_
      by_cases c7 : v3 = 0
      · replace hyp := (if_pos c7).symm.trans hyp
        refine rt_st (pc1 := 37) (fun _ _ B => go_if_eq_t 37 d_M_number_29 rfl c7 B) ?_
        refine rt_sub [0, 1] (lv1 := [(0, va_rf v0), (1, .int v1)]) rfl ?_
        exact p_M_number_37 F _ _ _ r hyp
      · replace hyp := (if_neg c7).symm.trans hyp
        refine rt_st (pc1 := 32) (fun _ _ B => go_if_eq_f d_M_number_29 rfl c7 B) ?_
        refine rt_sub [0, 1] (lv1 := [(0, va_rf v0), (1, .int v1)]) rfl ?_
        exact p_M_number_32 F _ _ _ r hyp
  · replace hyp := (if_neg c3).symm.trans hyp
    obtain ⟨h8, e9, hyp⟩ := Option.bind_eq_some_iff.mp hyp
    refine rt_st (pc1 := 37) (fun _ _ B => go_icmp_eq_f d_M_number_5 rfl c3 (go_aload_n 0 d_M_number_8 rfl (go_iconst (v := (1 : Int32)) d_M_number_9 (by decide) (go_callV0 (q := q_11) (st := []) [.int (1 : Int32)] (t_M_fails v0 (1 : Int32) h _ (onc_spec e9).2) mm_M_fails (by decide) d_M_number_10 (onc_spec e9).1 rfl rfl w1130 w1132 w36 rfl (Nat.le_of_ble_eq_true rfl) rfl (go_goto 37 d_M_number_13 rfl B))))) ?_
    refine rt_sub [0, 1] (lv1 := [(0, va_rf v0), (1, .int v1)]) rfl ?_
    exact p_M_number_37 F _ _ _ r hyp
/-! WideTurnModel.sortOf(I)I -/
def f_M_sortOf (v0 : Int32) : Int32 :=
  if v0 = (115 : Int32) then
    (1 : Int32)
  else
    if v0 = (112 : Int32) then
      (2 : Int32)
    else
      if v0 = (114 : Int32) then
        (3 : Int32)
      else
        if v0 = (104 : Int32) then
          (4 : Int32)
        else
          if v0 = (108 : Int32) then
            (5 : Int32)
          else
            (0 : Int32)
set_option maxHeartbeats 4000000 in
set_option maxRecDepth 200000 in
theorem t_M_sortOf (v0 : Int32) (h : MH) : Mt mi_M_sortOf 1 [.int v0] h (some (.int (f_M_sortOf v0))) h := by
  refine Mt.rt (lv := [(0, .int v0)]) (by decide +kernel) (by simp [lv_args, mj_rfc, mj_cti, mj_ctl]) (by simp [mj_rfc, mj_cti, mj_ctl]) ?_
  unfold f_M_sortOf
  refine rt_st (pc1 := 3) (fun _ _ B => go_iload_n 0 d_M_sortOf_0 rfl (go_bipush (v := (115 : Int32)) d_M_sortOf_1 (by decide) B)) ?_
  by_cases c1 : v0 = (115 : Int32)
  · rw [if_pos c1]
    refine rt_st (pc1 := 51) (fun _ _ B => go_icmp_ne_f d_M_sortOf_3 rfl c1 (go_iconst (v := (1 : Int32)) d_M_sortOf_6 (by decide) (go_goto 51 d_M_sortOf_7 rfl B))) ?_
    exact rt_int d_M_sortOf_51 rfl
  · rw [if_neg c1]
    refine rt_st (pc1 := 13) (fun _ _ B => go_icmp_ne_t 10 d_M_sortOf_3 rfl c1 (go_iload_n 0 d_M_sortOf_10 rfl (go_bipush (v := (112 : Int32)) d_M_sortOf_11 (by decide) B))) ?_
    by_cases c2 : v0 = (112 : Int32)
    · rw [if_pos c2]
      refine rt_st (pc1 := 51) (fun _ _ B => go_icmp_ne_f d_M_sortOf_13 rfl c2 (go_iconst (v := (2 : Int32)) d_M_sortOf_16 (by decide) (go_goto 51 d_M_sortOf_17 rfl B))) ?_
      exact rt_int d_M_sortOf_51 rfl
    · rw [if_neg c2]
      refine rt_st (pc1 := 23) (fun _ _ B => go_icmp_ne_t 20 d_M_sortOf_13 rfl c2 (go_iload_n 0 d_M_sortOf_20 rfl (go_bipush (v := (114 : Int32)) d_M_sortOf_21 (by decide) B))) ?_
      by_cases c3 : v0 = (114 : Int32)
      · rw [if_pos c3]
        refine rt_st (pc1 := 51) (fun _ _ B => go_icmp_ne_f d_M_sortOf_23 rfl c3 (go_iconst (v := (3 : Int32)) d_M_sortOf_26 (by decide) (go_goto 51 d_M_sortOf_27 rfl B))) ?_
        exact rt_int d_M_sortOf_51 rfl
      · rw [if_neg c3]
        refine rt_st (pc1 := 33) (fun _ _ B => go_icmp_ne_t 30 d_M_sortOf_23 rfl c3 (go_iload_n 0 d_M_sortOf_30 rfl (go_bipush (v := (104 : Int32)) d_M_sortOf_31 (by decide) B))) ?_
        by_cases c4 : v0 = (104 : Int32)
        · rw [if_pos c4]
          refine rt_st (pc1 := 51) (fun _ _ B => go_icmp_ne_f d_M_sortOf_33 rfl c4 (go_iconst (v := (4 : Int32)) d_M_sortOf_36 (by decide) (go_goto 51 d_M_sortOf_37 rfl B))) ?_
          exact rt_int d_M_sortOf_51 rfl
        · rw [if_neg c4]
          refine rt_st (pc1 := 43) (fun _ _ B => go_icmp_ne_t 40 d_M_sortOf_33 rfl c4 (go_iload_n 0 d_M_sortOf_40 rfl (go_bipush (v := (108 : Int32)) d_M_sortOf_41 (by decide) B))) ?_
          by_cases c5 : v0 = (108 : Int32)
          · rw [if_pos c5]
            refine rt_st (pc1 := 51) (fun _ _ B => go_icmp_ne_f d_M_sortOf_43 rfl c5 (go_iconst (v := (5 : Int32)) d_M_sortOf_46 (by decide) (go_goto 51 d_M_sortOf_47 rfl B))) ?_
            exact rt_int d_M_sortOf_51 rfl
          · rw [if_neg c5]
            refine rt_st (pc1 := 51) (fun _ _ B => go_icmp_ne_t 50 d_M_sortOf_43 rfl c5 (go_iconst (v := (0 : Int32)) d_M_sortOf_50 (by decide) B)) ?_
            exact rt_int d_M_sortOf_51 rfl
