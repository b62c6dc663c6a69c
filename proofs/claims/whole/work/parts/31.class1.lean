/-! WideTurn.Acts.<init>()V -/
def f_A_init (v0 : Option Nat) (h : MH) : Option MH :=
  Option.bind v0 fun t0 =>
  Option.bind (newA h 0 24) fun h2 =>
  Option.bind (pfv h2 v0 [0] 0 (va_rf (some h.2.1))) fun h4 =>
  Option.bind (newA h4 0 24) fun h6 =>
  Option.bind (pfv h6 v0 [0] 1 (va_rf (some h4.2.1))) fun h8 =>
  Option.bind (newA h8 0 24) fun h10 =>
  Option.bind (pfv h10 v0 [0] 2 (va_rf (some h8.2.1))) fun h12 =>
  Option.bind (newA h12 0 24) fun h14 =>
  Option.bind (pfv h14 v0 [0] 3 (va_rf (some h12.2.1))) fun h16 =>
  Option.bind (newA h16 0 24) fun h18 =>
  Option.bind (pfv h18 v0 [0] 4 (va_rf (some h16.2.1))) fun h20 =>
  Option.bind (newA h20 0 24) fun h22 =>
  Option.bind (pfv h22 v0 [0] 5 (va_rf (some h20.2.1))) fun h24 =>
  some h24
set_option maxHeartbeats 4000000 in
set_option maxRecDepth 200000 in
theorem t_A_init (v0 : Option Nat) (h : MH) (r : MH) (hyp : f_A_init v0 h = some r) : Mt mi_A_init 2 [va_rf v0] h none r := by
  refine Mt.rt (lv := [(0, va_rf v0)]) (by decide +kernel) (by simp [lv_args, mj_rfc, mj_cti, mj_ctl]) (by simp [mj_rfc, mj_cti, mj_ctl]) ?_
  unfold f_A_init at hyp
  obtain ⟨t0, hthis, hyp⟩ := Option.bind_eq_some_iff.mp hyp
  obtain ⟨h2, e3, hyp⟩ := Option.bind_eq_some_iff.mp hyp
  obtain ⟨h4, e5, hyp⟩ := Option.bind_eq_some_iff.mp hyp
  obtain ⟨h6, e7, hyp⟩ := Option.bind_eq_some_iff.mp hyp
  obtain ⟨h8, e9, hyp⟩ := Option.bind_eq_some_iff.mp hyp
  obtain ⟨h10, e11, hyp⟩ := Option.bind_eq_some_iff.mp hyp
  obtain ⟨h12, e13, hyp⟩ := Option.bind_eq_some_iff.mp hyp
  obtain ⟨h14, e15, hyp⟩ := Option.bind_eq_some_iff.mp hyp
  obtain ⟨h16, e17, hyp⟩ := Option.bind_eq_some_iff.mp hyp
  obtain ⟨h18, e19, hyp⟩ := Option.bind_eq_some_iff.mp hyp
  obtain ⟨h20, e21, hyp⟩ := Option.bind_eq_some_iff.mp hyp
  obtain ⟨h22, e23, hyp⟩ := Option.bind_eq_some_iff.mp hyp
  obtain ⟨h24, e25, hyp⟩ := Option.bind_eq_some_iff.mp hyp
  refine rt_st (pc1 := 52) (fun _ _ B => go_aload_n 0 d_A_init_0 rfl (go_objI (st := []) (mj_some hthis) (by decide) d_A_init_1 w128 w_objI w_objC (Nat.le_of_ble_eq_true rfl) (go_aload_n 0 d_A_init_4 rfl (go_bipush (v := (24 : Int32)) d_A_init_5 (by decide) (go_newA (by decide) rfl d_A_init_7 w_arr0 (by decide) (by decide) (by decide) e3 (go_pfr (ty := (.array .int)) d_A_init_9 fd_0_0 w129 (fun _ => ⟨rfl, rfl⟩) (by decide +kernel) rfl e5 (go_aload_n 0 d_A_init_12 rfl (go_bipush (v := (24 : Int32)) d_A_init_13 (by decide) (go_newA (by decide) rfl d_A_init_15 w_arr0 (by decide) (by decide) (by decide) e7 (go_pfr (ty := (.array .int)) d_A_init_17 fd_0_1 w130 (fun _ => ⟨rfl, rfl⟩) (by decide +kernel) rfl e9 (go_aload_n 0 d_A_init_20 rfl (go_bipush (v := (24 : Int32)) d_A_init_21 (by decide) (go_newA (by decide) rfl d_A_init_23 w_arr0 (by decide) (by decide) (by decide) e11 (go_pfr (ty := (.array .int)) d_A_init_25 fd_0_2 w131 (fun _ => ⟨rfl, rfl⟩) (by decide +kernel) rfl e13 (go_aload_n 0 d_A_init_28 rfl (go_bipush (v := (24 : Int32)) d_A_init_29 (by decide) (go_newA (by decide) rfl d_A_init_31 w_arr0 (by decide) (by decide) (by decide) e15 (go_pfr (ty := (.array .int)) d_A_init_33 fd_0_3 w132 (fun _ => ⟨rfl, rfl⟩) (by decide +kernel) rfl e17 (go_aload_n 0 d_A_init_36 rfl (go_bipush (v := (24 : Int32)) d_A_init_37 (by decide) (go_newA (by decide) rfl d_A_init_39 w_arr0 (by decide) (by decide) (by decide) e19 (go_pfr (ty := (.array .int)) d_A_init_41 fd_0_4 w133 (fun _ => ⟨rfl, rfl⟩) (by decide +kernel) rfl e21 (go_aload_n 0 d_A_init_44 rfl (go_bipush (v := (24 : Int32)) d_A_init_45 (by decide) (go_newA (by decide) rfl d_A_init_47 w_arr0 (by decide) (by decide) (by decide) e23 (go_pfr (ty := (.array .int)) d_A_init_49 fd_0_5 w134 (fun _ => ⟨rfl, rfl⟩) (by decide +kernel) rfl e25 B)))))))))))))))))))))))))) ?_
  exact rt_eq0 hyp (rt_void d_A_init_52 rfl)
/-! WideTurn.Acts.kept()I -/
def f_A_kept (v0 : Option Nat) (h : MH) : Option (Int32) :=
  Option.bind (gfi h v0 [0] 7) fun x1 =>
  some x1
set_option maxHeartbeats 4000000 in
set_option maxRecDepth 200000 in
theorem t_A_kept (v0 : Option Nat) (h : MH) (r : (Int32)) (hyp : f_A_kept v0 h = some r) : Mt mi_A_kept 1 [va_rf v0] h (some (.int r)) h := by
  refine Mt.rt (lv := [(0, va_rf v0)]) (by decide +kernel) (by simp [lv_args, mj_rfc, mj_cti, mj_ctl]) (by simp [mj_rfc, mj_cti, mj_ctl]) ?_
  unfold f_A_kept at hyp
  obtain ⟨x1, e2, hyp⟩ := Option.bind_eq_some_iff.mp hyp
  refine rt_st (pc1 := 4) (fun _ _ B => go_aload_n 0 d_A_kept_0 rfl (go_gfi d_A_kept_1 fd_0_7 w136 e2 B)) ?_
  exact rt_eqR Value.int hyp (rt_int d_A_kept_4 rfl)
/-! WideTurn.Acts.forget()V -/
def f_A_forget (v0 : Option Nat) (h : MH) : Option MH :=
  Option.bind (pfv h v0 [0] 7 (.int (0 : Int32))) fun h1 =>
  some h1
set_option maxHeartbeats 4000000 in
set_option maxRecDepth 200000 in
theorem t_A_forget (v0 : Option Nat) (h : MH) (r : MH) (hyp : f_A_forget v0 h = some r) : Mt mi_A_forget 1 [va_rf v0] h none r := by
  refine Mt.rt (lv := [(0, va_rf v0)]) (by decide +kernel) (by simp [lv_args, mj_rfc, mj_cti, mj_ctl]) (by simp [mj_rfc, mj_cti, mj_ctl]) ?_
  unfold f_A_forget at hyp
  obtain ⟨h1, e2, hyp⟩ := Option.bind_eq_some_iff.mp hyp
  refine rt_st (pc1 := 5) (fun _ _ B => go_aload_n 0 d_A_forget_0 rfl (go_iconst (v := (0 : Int32)) d_A_forget_1 (by decide) (go_pfi d_A_forget_2 fd_0_7 w136 (fun q => by cases q) e2 B))) ?_
  exact rt_eq0 hyp (rt_void d_A_forget_5 rfl)
/-! WideTurn.put([III)V -/
def f_C_put (v0 : Option Nat) (v1 : Int32) (v2 : Int32) (h : MH) : Option MH :=
  if v1 < 0 then
    some h
  else
    Option.bind (alen h v0) fun x2 =>
    if x2 ≤ v1 then
      some h
    else
      Option.bind (ast h v0 0 v1 v2) fun h5 =>
      some h5
set_option maxHeartbeats 4000000 in
set_option maxRecDepth 200000 in
theorem t_C_put (v0 : Option Nat) (v1 : Int32) (v2 : Int32) (h : MH) (r : MH) (hyp : f_C_put v0 v1 v2 h = some r) : Mt mi_C_put 1 [va_rf v0, .int v1, .int v2] h none r := by
  refine Mt.rt (lv := [(0, va_rf v0), (1, .int v1), (2, .int v2)]) (by decide +kernel) (by simp [lv_args, mj_rfc, mj_cti, mj_ctl]) (by simp [mj_rfc, mj_cti, mj_ctl]) ?_
  unfold f_C_put at hyp
  refine rt_st (pc1 := 1) (fun _ _ B => go_iload_n 1 d_C_put_0 rfl B) ?_
  by_cases c1 : v1 < 0
  · replace hyp := (if_pos c1).symm.trans hyp
    refine rt_st (pc1 := 14) (fun _ _ B => go_if_lt_t 14 d_C_put_1 rfl c1 B) ?_
    exact rt_eq0 hyp (rt_void d_C_put_14 rfl)
  · replace hyp := (if_neg c1).symm.trans hyp
    obtain ⟨x2, e3, hyp⟩ := Option.bind_eq_some_iff.mp hyp
    refine rt_st (pc1 := 7) (fun _ _ B => go_if_lt_f d_C_put_1 rfl c1 (go_iload_n 1 d_C_put_4 rfl (go_aload_n 0 d_C_put_5 rfl (go_alen d_C_put_6 e3 B)))) ?_
    by_cases c4 : x2 ≤ v1
    · replace hyp := (if_pos c4).symm.trans hyp
      refine rt_st (pc1 := 14) (fun _ _ B => go_icmp_ge_t 14 d_C_put_7 rfl c4 B) ?_
      exact rt_eq0 hyp (rt_void d_C_put_14 rfl)
    · replace hyp := (if_neg c4).symm.trans hyp
      obtain ⟨h5, e6, hyp⟩ := Option.bind_eq_some_iff.mp hyp
      refine rt_st (pc1 := 14) (fun _ _ B => go_icmp_ge_f d_C_put_7 rfl c4 (go_aload_n 0 d_C_put_10 rfl (go_iload_n 1 d_C_put_11 rfl (go_iload_n 2 d_C_put_12 rfl (go_iast d_C_put_13 e6 B))))) ?_
      exact rt_eq0 hyp (rt_void d_C_put_14 rfl)
/-! WideTurn.Acts.keep(LWideTurn.Basin;I)V -/
def f_A_keep (v0 : Option Nat) (v1 : Option Nat) (v2 : Int32) (h : MH) : Option MH :=
  Option.bind (gfr h v0 [0] 0) fun x1 =>
  Option.bind (gfi h v0 [0] 6) fun x3 =>
  Option.bind (gfi h v1 [1] 3) fun x5 =>
  Option.bind (f_C_put x1 x3 x5 h) fun h7 =>
  Option.bind (gfr h7 v0 [0] 1) fun x9 =>
  Option.bind (gfi h7 v0 [0] 6) fun x11 =>
  Option.bind (gfi h7 v1 [1] 4) fun x13 =>
  Option.bind (f_C_put x9 x11 x13 h7) fun h15 =>
  Option.bind (gfr h15 v0 [0] 2) fun x17 =>
  Option.bind (gfi h15 v0 [0] 6) fun x19 =>
  Option.bind (gfi h15 v1 [1] 5) fun x21 =>
  Option.bind (f_C_put x17 x19 x21 h15) fun h23 =>
  Option.bind (gfr h23 v0 [0] 3) fun x25 =>
  Option.bind (gfi h23 v0 [0] 6) fun x27 =>
  Option.bind (gfi h23 v1 [1] 6) fun x29 =>
  Option.bind (f_C_put x25 x27 x29 h23) fun h31 =>
  Option.bind (gfr h31 v0 [0] 4) fun x33 =>
  Option.bind (gfi h31 v0 [0] 6) fun x35 =>
  Option.bind (gfi h31 v1 [1] 7) fun x37 =>
  Option.bind (f_C_put x33 x35 x37 h31) fun h39 =>
  Option.bind (gfr h39 v0 [0] 5) fun x41 =>
  Option.bind (gfi h39 v0 [0] 6) fun x43 =>
  Option.bind (f_C_put x41 x43 v2 h39) fun h45 =>
  Option.bind (gfi h45 v0 [0] 6) fun x47 =>
  Option.bind (pfv h45 v0 [0] 6 (.int (mj_irem (x47 + (1 : Int32)) (24 : Int32)))) fun h49 =>
  Option.bind (gfi h49 v0 [0] 7) fun x51 =>
  Option.bind (pfv h49 v0 [0] 7 (.int (mj_min (24 : Int32) (x51 + (1 : Int32))))) fun h53 =>
  some h53
set_option maxHeartbeats 4000000 in
set_option maxRecDepth 200000 in
theorem t_A_keep (v0 : Option Nat) (v1 : Option Nat) (v2 : Int32) (h : MH) (r : MH) (hyp : f_A_keep v0 v1 v2 h = some r) : Mt mi_A_keep 2 [va_rf v0, va_rf v1, .int v2] h none r := by
  refine Mt.rt (lv := [(0, va_rf v0), (1, va_rf v1), (2, .int v2)]) (by decide +kernel) (by simp [lv_args, mj_rfc, mj_cti, mj_ctl]) (by simp [mj_rfc, mj_cti, mj_ctl]) ?_
  unfold f_A_keep at hyp
  obtain ⟨x1, e2, hyp⟩ := Option.bind_eq_some_iff.mp hyp
  obtain ⟨x3, e4, hyp⟩ := Option.bind_eq_some_iff.mp hyp
  obtain ⟨x5, e6, hyp⟩ := Option.bind_eq_some_iff.mp hyp
  obtain ⟨h7, e8, hyp⟩ := Option.bind_eq_some_iff.mp hyp
  obtain ⟨x9, e10, hyp⟩ := Option.bind_eq_some_iff.mp hyp
  obtain ⟨x11, e12, hyp⟩ := Option.bind_eq_some_iff.mp hyp
  obtain ⟨x13, e14, hyp⟩ := Option.bind_eq_some_iff.mp hyp
  obtain ⟨h15, e16, hyp⟩ := Option.bind_eq_some_iff.mp hyp
  obtain ⟨x17, e18, hyp⟩ := Option.bind_eq_some_iff.mp hyp
  obtain ⟨x19, e20, hyp⟩ := Option.bind_eq_some_iff.mp hyp
  obtain ⟨x21, e22, hyp⟩ := Option.bind_eq_some_iff.mp hyp
  obtain ⟨h23, e24, hyp⟩ := Option.bind_eq_some_iff.mp hyp
  obtain ⟨x25, e26, hyp⟩ := Option.bind_eq_some_iff.mp hyp
  obtain ⟨x27, e28, hyp⟩ := Option.bind_eq_some_iff.mp hyp
  obtain ⟨x29, e30, hyp⟩ := Option.bind_eq_some_iff.mp hyp
  obtain ⟨h31, e32, hyp⟩ := Option.bind_eq_some_iff.mp hyp
  obtain ⟨x33, e34, hyp⟩ := Option.bind_eq_some_iff.mp hyp
  obtain ⟨x35, e36, hyp⟩ := Option.bind_eq_some_iff.mp hyp
  obtain ⟨x37, e38, hyp⟩ := Option.bind_eq_some_iff.mp hyp
  obtain ⟨h39, e40, hyp⟩ := Option.bind_eq_some_iff.mp hyp
  obtain ⟨x41, e42, hyp⟩ := Option.bind_eq_some_iff.mp hyp
  obtain ⟨x43, e44, hyp⟩ := Option.bind_eq_some_iff.mp hyp
  obtain ⟨h45, e46, hyp⟩ := Option.bind_eq_some_iff.mp hyp
  refine rt_st (pc1 := 87) (fun _ _ B => go_aload_n 0 d_A_keep_0 rfl (go_gfr d_A_keep_1 fd_0_0 w129 e2 (go_aload_n 0 d_A_keep_4 rfl (go_gfi d_A_keep_5 fd_0_6 w135 e4 (go_aload_n 1 d_A_keep_8 rfl (go_gfi d_A_keep_9 fd_1_3 w223 e6 (go_callSN0 (st := []) [va_rf x1, .int x3, .int x5] (t_C_put x1 x3 x5 h _ e8) mm_C_put (by decide) d_A_keep_12 w562 w327 rfl (Nat.le_of_ble_eq_true rfl) rfl (go_aload_n 0 d_A_keep_15 rfl (go_gfr d_A_keep_16 fd_0_1 w130 e10 (go_aload_n 0 d_A_keep_19 rfl (go_gfi d_A_keep_20 fd_0_6 w135 e12 (go_aload_n 1 d_A_keep_23 rfl (go_gfi d_A_keep_24 fd_1_4 w229 e14 (go_callSN0 (st := []) [va_rf x9, .int x11, .int x13] (t_C_put x9 x11 x13 h7 _ e16) mm_C_put (by decide) d_A_keep_27 w562 w327 rfl (Nat.le_of_ble_eq_true rfl) rfl (go_aload_n 0 d_A_keep_30 rfl (go_gfr d_A_keep_31 fd_0_2 w131 e18 (go_aload_n 0 d_A_keep_34 rfl (go_gfi d_A_keep_35 fd_0_6 w135 e20 (go_aload_n 1 d_A_keep_38 rfl (go_gfi d_A_keep_39 fd_1_5 w233 e22 (go_callSN0 (st := []) [va_rf x17, .int x19, .int x21] (t_C_put x17 x19 x21 h15 _ e24) mm_C_put (by decide) d_A_keep_42 w562 w327 rfl (Nat.le_of_ble_eq_true rfl) rfl (go_aload_n 0 d_A_keep_45 rfl (go_gfr d_A_keep_46 fd_0_3 w132 e26 (go_aload_n 0 d_A_keep_49 rfl (go_gfi d_A_keep_50 fd_0_6 w135 e28 (go_aload_n 1 d_A_keep_53 rfl (go_gfi d_A_keep_54 fd_1_6 w236 e30 (go_callSN0 (st := []) [va_rf x25, .int x27, .int x29] (t_C_put x25 x27 x29 h23 _ e32) mm_C_put (by decide) d_A_keep_57 w562 w327 rfl (Nat.le_of_ble_eq_true rfl) rfl (go_aload_n 0 d_A_keep_60 rfl (go_gfr d_A_keep_61 fd_0_4 w133 e34 (go_aload_n 0 d_A_keep_64 rfl (go_gfi d_A_keep_65 fd_0_6 w135 e36 (go_aload_n 1 d_A_keep_68 rfl (go_gfi d_A_keep_69 fd_1_7 w240 e38 (go_callSN0 (st := []) [va_rf x33, .int x35, .int x37] (t_C_put x33 x35 x37 h31 _ e40) mm_C_put (by decide) d_A_keep_72 w562 w327 rfl (Nat.le_of_ble_eq_true rfl) rfl (go_aload_n 0 d_A_keep_75 rfl (go_gfr d_A_keep_76 fd_0_5 w134 e42 (go_aload_n 0 d_A_keep_79 rfl (go_gfi d_A_keep_80 fd_0_6 w135 e44 (go_iload_n 2 d_A_keep_83 rfl (go_callSN0 (st := []) [va_rf x41, .int x43, .int v2] (t_C_put x41 x43 v2 h39 _ e46) mm_C_put (by decide) d_A_keep_84 w562 w327 rfl (Nat.le_of_ble_eq_true rfl) rfl B))))))))))))))))))))))))))))))))))))))))) ?_
  obtain ⟨x47, e48, hyp⟩ := Option.bind_eq_some_iff.mp hyp
  obtain ⟨h49, e50, hyp⟩ := Option.bind_eq_some_iff.mp hyp
  obtain ⟨x51, e52, hyp⟩ := Option.bind_eq_some_iff.mp hyp
  obtain ⟨h53, e54, hyp⟩ := Option.bind_eq_some_iff.mp hyp
  refine rt_st (pc1 := 115) (fun _ _ B => go_aload_n 0 d_A_keep_87 rfl (go_aload_n 0 d_A_keep_88 rfl (go_gfi d_A_keep_89 fd_0_6 w135 e48 (go_iconst (v := (1 : Int32)) d_A_keep_92 (by decide) (go_iadd d_A_keep_93 (go_bipush (v := (24 : Int32)) d_A_keep_94 (by decide) (go_irem d_A_keep_96 (by decide) (go_pfi d_A_keep_97 fd_0_6 w135 (fun q => by cases q) e50 (go_aload_n 0 d_A_keep_100 rfl (go_bipush (v := (24 : Int32)) d_A_keep_101 (by decide) (go_aload_n 0 d_A_keep_103 rfl (go_gfi d_A_keep_104 fd_0_7 w136 e52 (go_iconst (v := (1 : Int32)) d_A_keep_107 (by decide) (go_iadd d_A_keep_108 (go_mmin (st := [va_rf v0]) (by decide) (Nat.le_of_ble_eq_true rfl) d_A_keep_109 w638 (go_pfi d_A_keep_112 fd_0_7 w136 (fun q => by cases q) e54 B)))))))))))))))) ?_
  exact rt_eq0 hyp (rt_void d_A_keep_115 rfl)
/-! WideTurn.at([II)I -/
def f_C_at (v0 : Option Nat) (v1 : Int32) (h : MH) : Option (Int32) :=
  if v1 < 0 then
    some (0 : Int32)
  else
    Option.bind (alen h v0) fun x2 =>
    if x2 ≤ v1 then
      some (0 : Int32)
    else
      Option.bind (ald h v0 0 v1) fun x5 =>
      some x5
set_option maxHeartbeats 4000000 in
set_option maxRecDepth 200000 in
theorem t_C_at (v0 : Option Nat) (v1 : Int32) (h : MH) (r : (Int32)) (hyp : f_C_at v0 v1 h = some r) : Mt mi_C_at 1 [va_rf v0, .int v1] h (some (.int r)) h := by
  refine Mt.rt (lv := [(0, va_rf v0), (1, .int v1)]) (by decide +kernel) (by simp [lv_args, mj_rfc, mj_cti, mj_ctl]) (by simp [mj_rfc, mj_cti, mj_ctl]) ?_
  unfold f_C_at at hyp
  refine rt_st (pc1 := 1) (fun _ _ B => go_iload_n 1 d_C_at_0 rfl B) ?_
  by_cases c1 : v1 < 0
  · replace hyp := (if_pos c1).symm.trans hyp
    refine rt_st (pc1 := 17) (fun _ _ B => go_if_lt_t 16 d_C_at_1 rfl c1 (go_iconst (v := (0 : Int32)) d_C_at_16 (by decide) B)) ?_
    exact rt_eqR Value.int hyp (rt_int d_C_at_17 rfl)
  · replace hyp := (if_neg c1).symm.trans hyp
    obtain ⟨x2, e3, hyp⟩ := Option.bind_eq_some_iff.mp hyp
    refine rt_st (pc1 := 7) (fun _ _ B => go_if_lt_f d_C_at_1 rfl c1 (go_iload_n 1 d_C_at_4 rfl (go_aload_n 0 d_C_at_5 rfl (go_alen d_C_at_6 e3 B)))) ?_
    by_cases c4 : x2 ≤ v1
    · replace hyp := (if_pos c4).symm.trans hyp
      refine rt_st (pc1 := 17) (fun _ _ B => go_icmp_ge_t 16 d_C_at_7 rfl c4 (go_iconst (v := (0 : Int32)) d_C_at_16 (by decide) B)) ?_
      exact rt_eqR Value.int hyp (rt_int d_C_at_17 rfl)
    · replace hyp := (if_neg c4).symm.trans hyp
      obtain ⟨x5, e6, hyp⟩ := Option.bind_eq_some_iff.mp hyp
      refine rt_st (pc1 := 17) (fun _ _ B => go_icmp_ge_f d_C_at_7 rfl c4 (go_aload_n 0 d_C_at_10 rfl (go_iload_n 1 d_C_at_11 rfl (go_iald d_C_at_12 e6 (go_goto 17 d_C_at_13 rfl B))))) ?_
      exact rt_eqR Value.int hyp (rt_int d_C_at_17 rfl)
/-! WideTurn.bit(II)I -/
def f_C_bit (v0 : Int32) (v1 : Int32) : Int32 :=
  ((v0 >>> (v1 &&& 31)) &&& (1 : Int32))
set_option maxHeartbeats 4000000 in
set_option maxRecDepth 200000 in
theorem t_C_bit (v0 : Int32) (v1 : Int32) (h : MH) : Mt mi_C_bit 1 [.int v0, .int v1] h (some (.int (f_C_bit v0 v1))) h := by
  refine Mt.rt (lv := [(0, .int v0), (1, .int v1)]) (by decide +kernel) (by simp [lv_args, mj_rfc, mj_cti, mj_ctl]) (by simp [mj_rfc, mj_cti, mj_ctl]) ?_
  unfold f_C_bit
  refine rt_st (pc1 := 5) (fun _ _ B => go_iload_n 0 d_C_bit_0 rfl (go_iload_n 1 d_C_bit_1 rfl (go_ishr d_C_bit_2 (go_iconst (v := (1 : Int32)) d_C_bit_3 (by decide) (go_iand d_C_bit_4 B))))) ?_
  exact rt_int d_C_bit_5 rfl
/-! WideTurn.Acts.takeBack(LWideTurn.Basin;)V -/
def b_A_takeBack_107 (F : Nat) : Nat → (Option Nat) → (Option Nat) → (Int32) → (MH) → (Option MH)
  | 0 => fun _ _ _ _ => none
  | n + 1 => fun v0 v1 v2 h => 
    if (24 : Int32) ≤ v2 then
      some h
    else
      Option.bind (gfr h v1 [1] 9) fun x2 =>
      Option.bind (gfr h v1 [1] 9) fun x4 =>
      Option.bind (f_C_at x4 v2 h) fun x6 =>
      Option.bind (gfr h v0 [0] 5) fun x8 =>
      Option.bind (gfi h v0 [0] 6) fun x10 =>
      Option.bind (f_C_at x8 x10 h) fun x12 =>
      Option.bind (f_C_put x2 v2 (x6 + (f_C_bit x12 v2)) h) fun h14 =>
      (b_A_takeBack_107 F n) v0 v1 (v2 + (1 : Int32)) h14
def f_A_takeBack (F : Nat) (v0 : Option Nat) (v1 : Option Nat) (h : MH) : Option MH :=
  Option.bind (gfi h v0 [0] 6) fun x1 =>
  Option.bind (pfv h v0 [0] 6 (.int (mj_irem ((x1 + (24 : Int32)) - (1 : Int32)) (24 : Int32)))) fun h3 =>
  Option.bind (gfi h3 v0 [0] 7) fun x5 =>
  Option.bind (pfv h3 v0 [0] 7 (.int (mj_max (0 : Int32) (x5 - (1 : Int32))))) fun h7 =>
  Option.bind (gfr h7 v0 [0] 0) fun x9 =>
  Option.bind (gfi h7 v0 [0] 6) fun x11 =>
  Option.bind (f_C_at x9 x11 h7) fun x13 =>
  Option.bind (pfv h7 v1 [1] 3 (.int x13)) fun h15 =>
  Option.bind (gfr h15 v0 [0] 1) fun x17 =>
  Option.bind (gfi h15 v0 [0] 6) fun x19 =>
  Option.bind (f_C_at x17 x19 h15) fun x21 =>
  Option.bind (pfv h15 v1 [1] 4 (.int x21)) fun h23 =>
  Option.bind (gfr h23 v0 [0] 2) fun x25 =>
  Option.bind (gfi h23 v0 [0] 6) fun x27 =>
  Option.bind (f_C_at x25 x27 h23) fun x29 =>
  Option.bind (pfv h23 v1 [1] 5 (.int x29)) fun h31 =>
  Option.bind (gfr h31 v0 [0] 3) fun x33 =>
  Option.bind (gfi h31 v0 [0] 6) fun x35 =>
  Option.bind (f_C_at x33 x35 h31) fun x37 =>
  Option.bind (pfv h31 v1 [1] 6 (.int x37)) fun h39 =>
  Option.bind (gfr h39 v0 [0] 4) fun x41 =>
  Option.bind (gfi h39 v0 [0] 6) fun x43 =>
  Option.bind (f_C_at x41 x43 h39) fun x45 =>
  Option.bind (pfv h39 v1 [1] 7 (.int x45)) fun h47 =>
  b_A_takeBack_107 F F v0 v1 (0 : Int32) h47
set_option maxHeartbeats 4000000 in
set_option maxRecDepth 200000 in
theorem p_A_takeBack_107 (F : Nat) {h0 : MH} : ∀ (n : Nat) (v0 : Option Nat) (v1 : Option Nat) (v2 : Int32) (h : MH) (r : MH), b_A_takeBack_107 F  n v0 v1 v2 h = some r → Rt mi_A_takeBack 2 h0 107 [(0, va_rf v0), (1, va_rf v1), (2, .int v2)] [] h none r := by
  intro n
  induction n with
  | zero =>
    intro v0 v1 v2 h r hyp
    cases hyp
  | succ n ih =>
    intro v0 v1 v2 h r hyp
    unfold b_A_takeBack_107 at hyp
    refine rt_st (pc1 := 110) (fun _ _ B => go_iload_n 2 d_A_takeBack_107 rfl (go_bipush (v := (24 : Int32)) d_A_takeBack_108 (by decide) B)) ?_
    by_cases c1 : (24 : Int32) ≤ v2
    · replace hyp := (if_pos c1).symm.trans hyp
      refine rt_st (pc1 := 151) (fun _ _ B => go_icmp_ge_t 151 d_A_takeBack_110 rfl c1 B) ?_
      exact rt_eq0 hyp (rt_void d_A_takeBack_151 rfl)
    · replace hyp := (if_neg c1).symm.trans hyp
      obtain ⟨x2, e3, hyp⟩ := Option.bind_eq_some_iff.mp hyp
      obtain ⟨x4, e5, hyp⟩ := Option.bind_eq_some_iff.mp hyp
      obtain ⟨x6, e7, hyp⟩ := Option.bind_eq_some_iff.mp hyp
      obtain ⟨x8, e9, hyp⟩ := Option.bind_eq_some_iff.mp hyp
      obtain ⟨x10, e11, hyp⟩ := Option.bind_eq_some_iff.mp hyp
      obtain ⟨x12, e13, hyp⟩ := Option.bind_eq_some_iff.mp hyp
      obtain ⟨h14, e15, hyp⟩ := Option.bind_eq_some_iff.mp hyp
      refine rt_st (pc1 := 107) (fun _ _ B => go_icmp_ge_f d_A_takeBack_110 rfl c1 (go_aload_n 1 d_A_takeBack_113 rfl (go_gfr d_A_takeBack_114 fd_1_9 w247 e3 (go_iload_n 2 d_A_takeBack_117 rfl (go_aload_n 1 d_A_takeBack_118 rfl (go_gfr d_A_takeBack_119 fd_1_9 w247 e5 (go_iload_n 2 d_A_takeBack_122 rfl (go_callSN1 (st := [.int v2, va_rf x2]) [va_rf x4, .int v2] (t_C_at x4 v2 h _ e7) mm_C_at (by decide) d_A_takeBack_123 w560 w343 rfl (Nat.le_of_ble_eq_true rfl) rfl (go_aload_n 0 d_A_takeBack_126 rfl (go_gfr d_A_takeBack_127 fd_0_5 w134 e9 (go_aload_n 0 d_A_takeBack_130 rfl (go_gfi d_A_takeBack_131 fd_0_6 w135 e11 (go_callSN1 (st := [.int x6, .int v2, va_rf x2]) [va_rf x8, .int x10] (t_C_at x8 x10 h _ e13) mm_C_at (by decide) d_A_takeBack_134 w560 w343 rfl (Nat.le_of_ble_eq_true rfl) rfl (go_iload_n 2 d_A_takeBack_137 rfl (go_callSN1 (st := [.int x6, .int v2, va_rf x2]) [.int x12, .int v2] (t_C_bit x12 v2 h) mm_C_bit (by decide) d_A_takeBack_138 w561 w445 rfl (Nat.le_of_ble_eq_true rfl) rfl (go_iadd d_A_takeBack_141 (go_callSN0 (st := []) [va_rf x2, .int v2, .int (x6 + (f_C_bit x12 v2))] (t_C_put x2 v2 (x6 + (f_C_bit x12 v2)) h _ e15) mm_C_put (by decide) d_A_takeBack_142 w562 w327 rfl (Nat.le_of_ble_eq_true rfl) rfl (go_iinc (v := (v2 + (1 : Int32))) (lv1 := [(2, .int (v2 + (1 : Int32))), (0, va_rf v0), (1, va_rf v1)]) 2 d_A_takeBack_145 rfl rfl (by decide) (by first | (simp [mj_s1, mj_s2, mj_rfc, mj_cti, mj_ctl]; done) | (simp [mj_s1, mj_s2, mj_rfc, mj_cti, mj_ctl]; decide)) (go_goto 107 d_A_takeBack_148 rfl B))))))))))))))))))) ?_
      refine rt_sub [1, 2, 0] (lv1 := [(0, va_rf v0), (1, va_rf v1), (2, .int (v2 + (1 : Int32)))]) rfl ?_
      exact ih _ _ _ _ _ hyp
set_option maxHeartbeats 4000000 in
set_option maxRecDepth 200000 in
theorem t_A_takeBack (F : Nat) (v0 : Option Nat) (v1 : Option Nat) (h : MH) (r : MH) (hyp : f_A_takeBack F v0 v1 h = some r) : Mt mi_A_takeBack 2 [va_rf v0, va_rf v1] h none r := by
  refine Mt.rt (lv := [(0, va_rf v0), (1, va_rf v1)]) (by decide +kernel) (by simp [lv_args, mj_rfc, mj_cti, mj_ctl]) (by simp [mj_rfc, mj_cti, mj_ctl]) ?_
  unfold f_A_takeBack at hyp
  obtain ⟨x1, e2, hyp⟩ := Option.bind_eq_some_iff.mp hyp
  obtain ⟨h3, e4, hyp⟩ := Option.bind_eq_some_iff.mp hyp
  obtain ⟨x5, e6, hyp⟩ := Option.bind_eq_some_iff.mp hyp
  obtain ⟨h7, e8, hyp⟩ := Option.bind_eq_some_iff.mp hyp
  obtain ⟨x9, e10, hyp⟩ := Option.bind_eq_some_iff.mp hyp
  obtain ⟨x11, e12, hyp⟩ := Option.bind_eq_some_iff.mp hyp
  obtain ⟨x13, e14, hyp⟩ := Option.bind_eq_some_iff.mp hyp
  obtain ⟨h15, e16, hyp⟩ := Option.bind_eq_some_iff.mp hyp
  obtain ⟨x17, e18, hyp⟩ := Option.bind_eq_some_iff.mp hyp
  obtain ⟨x19, e20, hyp⟩ := Option.bind_eq_some_iff.mp hyp
  obtain ⟨x21, e22, hyp⟩ := Option.bind_eq_some_iff.mp hyp
  obtain ⟨h23, e24, hyp⟩ := Option.bind_eq_some_iff.mp hyp
  obtain ⟨x25, e26, hyp⟩ := Option.bind_eq_some_iff.mp hyp
  obtain ⟨x27, e28, hyp⟩ := Option.bind_eq_some_iff.mp hyp
  obtain ⟨x29, e30, hyp⟩ := Option.bind_eq_some_iff.mp hyp
  obtain ⟨h31, e32, hyp⟩ := Option.bind_eq_some_iff.mp hyp
  refine rt_st (pc1 := 77) (fun _ _ B => go_aload_n 0 d_A_takeBack_0 rfl (go_aload_n 0 d_A_takeBack_1 rfl (go_gfi d_A_takeBack_2 fd_0_6 w135 e2 (go_bipush (v := (24 : Int32)) d_A_takeBack_5 (by decide) (go_iadd d_A_takeBack_7 (go_iconst (v := (1 : Int32)) d_A_takeBack_8 (by decide) (go_isub d_A_takeBack_9 (go_bipush (v := (24 : Int32)) d_A_takeBack_10 (by decide) (go_irem d_A_takeBack_12 (by decide) (go_pfi d_A_takeBack_13 fd_0_6 w135 (fun q => by cases q) e4 (go_aload_n 0 d_A_takeBack_16 rfl (go_iconst (v := (0 : Int32)) d_A_takeBack_17 (by decide) (go_aload_n 0 d_A_takeBack_18 rfl (go_gfi d_A_takeBack_19 fd_0_7 w136 e6 (go_iconst (v := (1 : Int32)) d_A_takeBack_22 (by decide) (go_isub d_A_takeBack_23 (go_mmax (st := [va_rf v0]) (by decide) (Nat.le_of_ble_eq_true rfl) d_A_takeBack_24 w557 (go_pfi d_A_takeBack_27 fd_0_7 w136 (fun q => by cases q) e8 (go_aload_n 1 d_A_takeBack_30 rfl (go_aload_n 0 d_A_takeBack_31 rfl (go_gfr d_A_takeBack_32 fd_0_0 w129 e10 (go_aload_n 0 d_A_takeBack_35 rfl (go_gfi d_A_takeBack_36 fd_0_6 w135 e12 (go_callSN1 (st := [va_rf v1]) [va_rf x9, .int x11] (t_C_at x9 x11 h7 _ e14) mm_C_at (by decide) d_A_takeBack_39 w560 w343 rfl (Nat.le_of_ble_eq_true rfl) rfl (go_pfi d_A_takeBack_42 fd_1_3 w223 (fun q => by cases q) e16 (go_aload_n 1 d_A_takeBack_45 rfl (go_aload_n 0 d_A_takeBack_46 rfl (go_gfr d_A_takeBack_47 fd_0_1 w130 e18 (go_aload_n 0 d_A_takeBack_50 rfl (go_gfi d_A_takeBack_51 fd_0_6 w135 e20 (go_callSN1 (st := [va_rf v1]) [va_rf x17, .int x19] (t_C_at x17 x19 h15 _ e22) mm_C_at (by decide) d_A_takeBack_54 w560 w343 rfl (Nat.le_of_ble_eq_true rfl) rfl (go_pfi d_A_takeBack_57 fd_1_4 w229 (fun q => by cases q) e24 (go_aload_n 1 d_A_takeBack_60 rfl (go_aload_n 0 d_A_takeBack_61 rfl (go_gfr d_A_takeBack_62 fd_0_2 w131 e26 (go_aload_n 0 d_A_takeBack_65 rfl (go_gfi d_A_takeBack_66 fd_0_6 w135 e28 (go_callSN1 (st := [va_rf v1]) [va_rf x25, .int x27] (t_C_at x25 x27 h23 _ e30) mm_C_at (by decide) d_A_takeBack_69 w560 w343 rfl (Nat.le_of_ble_eq_true rfl) rfl (go_pfi d_A_takeBack_72 fd_1_5 w233 (fun q => by cases q) e32 (go_aload_n 1 d_A_takeBack_75 rfl (go_aload_n 0 d_A_takeBack_76 rfl B))))))))))))))))))))))))))))))))))))))))) ?_
  obtain ⟨x33, e34, hyp⟩ := Option.bind_eq_some_iff.mp hyp
  obtain ⟨x35, e36, hyp⟩ := Option.bind_eq_some_iff.mp hyp
  obtain ⟨x37, e38, hyp⟩ := Option.bind_eq_some_iff.mp hyp
  obtain ⟨h39, e40, hyp⟩ := Option.bind_eq_some_iff.mp hyp
  obtain ⟨x41, e42, hyp⟩ := Option.bind_eq_some_iff.mp hyp
  obtain ⟨x43, e44, hyp⟩ := Option.bind_eq_some_iff.mp hyp
  obtain ⟨x45, e46, hyp⟩ := Option.bind_eq_some_iff.mp hyp
  obtain ⟨h47, e48, hyp⟩ := Option.bind_eq_some_iff.mp hyp
  refine rt_st (pc1 := 107) (fun _ _ B => go_gfr d_A_takeBack_77 fd_0_3 w132 e34 (go_aload_n 0 d_A_takeBack_80 rfl (go_gfi d_A_takeBack_81 fd_0_6 w135 e36 (go_callSN1 (st := [va_rf v1]) [va_rf x33, .int x35] (t_C_at x33 x35 h31 _ e38) mm_C_at (by decide) d_A_takeBack_84 w560 w343 rfl (Nat.le_of_ble_eq_true rfl) rfl (go_pfi d_A_takeBack_87 fd_1_6 w236 (fun q => by cases q) e40 (go_aload_n 1 d_A_takeBack_90 rfl (go_aload_n 0 d_A_takeBack_91 rfl (go_gfr d_A_takeBack_92 fd_0_4 w133 e42 (go_aload_n 0 d_A_takeBack_95 rfl (go_gfi d_A_takeBack_96 fd_0_6 w135 e44 (go_callSN1 (st := [va_rf v1]) [va_rf x41, .int x43] (t_C_at x41 x43 h39 _ e46) mm_C_at (by decide) d_A_takeBack_99 w560 w343 rfl (Nat.le_of_ble_eq_true rfl) rfl (go_pfi d_A_takeBack_102 fd_1_7 w240 (fun q => by cases q) e48 (go_iconst (v := (0 : Int32)) d_A_takeBack_105 (by decide) (go_istore_n (lv1 := [(2, .int (0 : Int32)), (0, va_rf v0), (1, va_rf v1)]) d_A_takeBack_106 (by decide) (by first | (simp [mj_s1, mj_s2, mj_rfc, mj_cti, mj_ctl]; done) | (simp [mj_s1, mj_s2, mj_rfc, mj_cti, mj_ctl]; decide)) B)))))))))))))) ?_
  refine rt_sub [1, 2, 0] (lv1 := [(0, va_rf v0), (1, va_rf v1), (2, .int (0 : Int32))]) rfl ?_
  exact p_A_takeBack_107 F F _ _ _ _ r hyp
/-! WideTurn.Basin.<init>()V -/
def f_B_init (v0 : Option Nat) (h : MH) : Option MH :=
  Option.bind v0 fun t0 =>
  Option.bind (newA h 0 24) fun h2 =>
  Option.bind (pfv h2 v0 [1] 9 (va_rf (some h.2.1))) fun h4 =>
  Option.bind (newQ h4 2 4) fun h6 =>
  Option.bind (pfv h6 v0 [1] 10 (va_rf (some h4.2.1))) fun h8 =>
  some h8
set_option maxHeartbeats 4000000 in
set_option maxRecDepth 200000 in
theorem t_B_init (v0 : Option Nat) (h : MH) (r : MH) (hyp : f_B_init v0 h = some r) : Mt mi_B_init 2 [va_rf v0] h none r := by
  refine Mt.rt (lv := [(0, va_rf v0)]) (by decide +kernel) (by simp [lv_args, mj_rfc, mj_cti, mj_ctl]) (by simp [mj_rfc, mj_cti, mj_ctl]) ?_
  unfold f_B_init at hyp
  obtain ⟨t0, hthis, hyp⟩ := Option.bind_eq_some_iff.mp hyp
  obtain ⟨h2, e3, hyp⟩ := Option.bind_eq_some_iff.mp hyp
  obtain ⟨h4, e5, hyp⟩ := Option.bind_eq_some_iff.mp hyp
  obtain ⟨h6, e7, hyp⟩ := Option.bind_eq_some_iff.mp hyp
  obtain ⟨h8, e9, hyp⟩ := Option.bind_eq_some_iff.mp hyp
  refine rt_st (pc1 := 20) (fun _ _ B => go_aload_n 0 d_B_init_0 rfl (go_objI (st := []) (mj_some hthis) (by decide) d_B_init_1 w210 w_objI w_objC (Nat.le_of_ble_eq_true rfl) (go_aload_n 0 d_B_init_4 rfl (go_bipush (v := (24 : Int32)) d_B_init_5 (by decide) (go_newA (by decide) rfl d_B_init_7 w_arr0 (by decide) (by decide) (by decide) e3 (go_pfr (ty := (.array .int)) d_B_init_9 fd_1_9 w246 (fun _ => ⟨rfl, rfl⟩) (by decide +kernel) rfl e5 (go_aload_n 0 d_B_init_12 rfl (go_iconst (v := (4 : Int32)) d_B_init_13 (by decide) (go_newQ (C := "WideTurn$Hand") (by decide) rfl d_B_init_14 w211 w212 (by decide) (by decide) (by decide) e7 (go_pfr (ty := (.array (.object "WideTurn$Hand"))) d_B_init_17 fd_1_10 w250 (fun _ => ⟨rfl, rfl⟩) (by decide +kernel) rfl e9 B)))))))))) ?_
  exact rt_eq0 hyp (rt_void d_B_init_20 rfl)
/-! WideTurn.Basin.clear()V -/
def f_B_clear (v0 : Option Nat) (h : MH) : Option MH :=
  Option.bind (pfv h v0 [1] 5 (.int (0 : Int32))) fun h1 =>
  Option.bind (pfv h1 v0 [1] 6 (.int (0 : Int32))) fun h3 =>
  Option.bind (pfv h3 v0 [1] 7 (.int (0 : Int32))) fun h5 =>
  Option.bind (pfv h5 v0 [1] 8 (.int (0 : Int32))) fun h7 =>
  some h7
set_option maxHeartbeats 4000000 in
set_option maxRecDepth 200000 in
theorem t_B_clear (v0 : Option Nat) (h : MH) (r : MH) (hyp : f_B_clear v0 h = some r) : Mt mi_B_clear 1 [va_rf v0] h none r := by
  refine Mt.rt (lv := [(0, va_rf v0)]) (by decide +kernel) (by simp [lv_args, mj_rfc, mj_cti, mj_ctl]) (by simp [mj_rfc, mj_cti, mj_ctl]) ?_
  unfold f_B_clear at hyp
  obtain ⟨h1, e2, hyp⟩ := Option.bind_eq_some_iff.mp hyp
  obtain ⟨h3, e4, hyp⟩ := Option.bind_eq_some_iff.mp hyp
  obtain ⟨h5, e6, hyp⟩ := Option.bind_eq_some_iff.mp hyp
  obtain ⟨h7, e8, hyp⟩ := Option.bind_eq_some_iff.mp hyp
  refine rt_st (pc1 := 20) (fun _ _ B => go_aload_n 0 d_B_clear_0 rfl (go_iconst (v := (0 : Int32)) d_B_clear_1 (by decide) (go_pfi d_B_clear_2 fd_1_5 w232 (fun q => by cases q) e2 (go_aload_n 0 d_B_clear_5 rfl (go_iconst (v := (0 : Int32)) d_B_clear_6 (by decide) (go_pfi d_B_clear_7 fd_1_6 w235 (fun q => by cases q) e4 (go_aload_n 0 d_B_clear_10 rfl (go_iconst (v := (0 : Int32)) d_B_clear_11 (by decide) (go_pfi d_B_clear_12 fd_1_7 w239 (fun q => by cases q) e6 (go_aload_n 0 d_B_clear_15 rfl (go_iconst (v := (0 : Int32)) d_B_clear_16 (by decide) (go_pfi d_B_clear_17 fd_1_8 w243 (fun q => by cases q) e8 B)))))))))))) ?_
  exact rt_eq0 hyp (rt_void d_B_clear_20 rfl)
/-! WideTurn.Basin.become(LWideTurn.Basin;)V -/
def b_B_become_104 (F : Nat) : Nat → (Option Nat) → (Option Nat) → (Int32) → (MH) → (Option MH)
  | 0 => fun _ _ _ _ => none
  | n + 1 => fun v0 v1 v2 h => 
    Option.bind (gfr h v0 [1] 10) fun x1 =>
    Option.bind (alen h x1) fun x3 =>
    if x3 ≤ v2 then
      some h
    else
      Option.bind (gfr h v1 [1] 10) fun x6 =>
      Option.bind (alen h x6) fun x8 =>
      if x8 ≤ v2 then
        some h
      else
        Option.bind (gfr h v0 [1] 10) fun x11 =>
        Option.bind (gfr h v1 [1] 10) fun x13 =>
        Option.bind (qld h x13 2 v2) fun x15 =>
        Option.bind (qst h x11 2 [2, 3, 4, 7, 8] v2 x15) fun h17 =>
        (b_B_become_104 F n) v0 v1 (v2 + (1 : Int32)) h17
def b_B_become_74 (F : Nat) : Nat → (Option Nat) → (Option Nat) → (Int32) → (MH) → (Option MH)
  | 0 => fun _ _ _ _ => none
  | n + 1 => fun v0 v1 v2 h => 
    if (24 : Int32) ≤ v2 then
      b_B_become_104 F F v0 v1 (0 : Int32) h
    else
      Option.bind (gfr h v0 [1] 9) fun x2 =>
      Option.bind (gfr h v1 [1] 9) fun x4 =>
      Option.bind (f_C_at x4 v2 h) fun x6 =>
      Option.bind (f_C_put x2 v2 x6 h) fun h8 =>
      (b_B_become_74 F n) v0 v1 (v2 + (1 : Int32)) h8
def f_B_become (F : Nat) (v0 : Option Nat) (v1 : Option Nat) (h : MH) : Option MH :=
  Option.bind (gfi h v1 [1] 0) fun x1 =>
  Option.bind (pfv h v0 [1] 0 (.int x1)) fun h3 =>
  Option.bind (gfi h3 v1 [1] 1) fun x5 =>
  Option.bind (pfv h3 v0 [1] 1 (.int x5)) fun h7 =>
  Option.bind (gfi h7 v1 [1] 2) fun x9 =>
  Option.bind (pfv h7 v0 [1] 2 (.int x9)) fun h11 =>
  Option.bind (gfi h11 v1 [1] 3) fun x13 =>
  Option.bind (pfv h11 v0 [1] 3 (.int x13)) fun h15 =>
  Option.bind (gfi h15 v1 [1] 4) fun x17 =>
  Option.bind (pfv h15 v0 [1] 4 (.int x17)) fun h19 =>
  Option.bind (gfi h19 v1 [1] 5) fun x21 =>
  Option.bind (pfv h19 v0 [1] 5 (.int x21)) fun h23 =>
  Option.bind (gfi h23 v1 [1] 6) fun x25 =>
  Option.bind (pfv h23 v0 [1] 6 (.int x25)) fun h27 =>
  Option.bind (gfi h27 v1 [1] 7) fun x29 =>
  Option.bind (pfv h27 v0 [1] 7 (.int x29)) fun h31 =>
  Option.bind (gfi h31 v1 [1] 8) fun x33 =>
  Option.bind (pfv h31 v0 [1] 8 (.int x33)) fun h35 =>
  b_B_become_74 F F v0 v1 (0 : Int32) h35
set_option maxHeartbeats 4000000 in
set_option maxRecDepth 200000 in
theorem p_B_become_104 (F : Nat) {h0 : MH} : ∀ (n : Nat) (v0 : Option Nat) (v1 : Option Nat) (v2 : Int32) (h : MH) (r : MH), b_B_become_104 F  n v0 v1 v2 h = some r → Rt mi_B_become 2 h0 104 [(0, va_rf v0), (1, va_rf v1), (2, .int v2)] [] h none r := by
  intro n
  induction n with
  | zero =>
    intro v0 v1 v2 h r hyp
    cases hyp
  | succ n ih =>
    intro v0 v1 v2 h r hyp
    unfold b_B_become_104 at hyp
    obtain ⟨x1, e2, hyp⟩ := Option.bind_eq_some_iff.mp hyp
    obtain ⟨x3, e4, hyp⟩ := Option.bind_eq_some_iff.mp hyp
    refine rt_st (pc1 := 110) (fun _ _ B => go_iload_n 2 d_B_become_104 rfl (go_aload_n 0 d_B_become_105 rfl (go_gfr d_B_become_106 fd_1_10 w250 e2 (go_alen d_B_become_109 e4 B)))) ?_
    by_cases c5 : x3 ≤ v2
    · replace hyp := (if_pos c5).symm.trans hyp
      refine rt_st (pc1 := 140) (fun _ _ B => go_icmp_ge_t 140 d_B_become_110 rfl c5 B) ?_
      exact rt_eq0 hyp (rt_void d_B_become_140 rfl)
    · replace hyp := (if_neg c5).symm.trans hyp
      obtain ⟨x6, e7, hyp⟩ := Option.bind_eq_some_iff.mp hyp
      obtain ⟨x8, e9, hyp⟩ := Option.bind_eq_some_iff.mp hyp
      refine rt_st (pc1 := 119) (fun _ _ B => go_icmp_ge_f d_B_become_110 rfl c5 (go_iload_n 2 d_B_become_113 rfl (go_aload_n 1 d_B_become_114 rfl (go_gfr d_B_become_115 fd_1_10 w250 e7 (go_alen d_B_become_118 e9 B))))) ?_
      by_cases c10 : x8 ≤ v2
      · replace hyp := (if_pos c10).symm.trans hyp
        refine rt_st (pc1 := 140) (fun _ _ B => go_icmp_ge_t 140 d_B_become_119 rfl c10 B) ?_
        exact rt_eq0 hyp (rt_void d_B_become_140 rfl)
      · replace hyp := (if_neg c10).symm.trans hyp
        obtain ⟨x11, e12, hyp⟩ := Option.bind_eq_some_iff.mp hyp
        obtain ⟨x13, e14, hyp⟩ := Option.bind_eq_some_iff.mp hyp
        obtain ⟨x15, e16, hyp⟩ := Option.bind_eq_some_iff.mp hyp
        obtain ⟨h17, e18, hyp⟩ := Option.bind_eq_some_iff.mp hyp
        refine rt_st (pc1 := 104) (fun _ _ B => go_icmp_ge_f d_B_become_119 rfl c10 (go_aload_n 0 d_B_become_122 rfl (go_gfr d_B_become_123 fd_1_10 w250 e12 (go_iload_n 2 d_B_become_126 rfl (go_aload_n 1 d_B_become_127 rfl (go_gfr d_B_become_128 fd_1_10 w250 e14 (go_iload_n 2 d_B_become_131 rfl (go_qld (by decide) d_B_become_132 e16 (go_qst (cs := [2, 3, 4, 7, 8]) (by decide) mj_fit2 d_B_become_133 e18 (go_iinc (v := (v2 + (1 : Int32))) (lv1 := [(2, .int (v2 + (1 : Int32))), (0, va_rf v0), (1, va_rf v1)]) 2 d_B_become_134 rfl rfl (by decide) (by first | (simp [mj_s1, mj_s2, mj_rfc, mj_cti, mj_ctl]; done) | (simp [mj_s1, mj_s2, mj_rfc, mj_cti, mj_ctl]; decide)) (go_goto 104 d_B_become_137 rfl B))))))))))) ?_
        refine rt_sub [1, 2, 0] (lv1 := [(0, va_rf v0), (1, va_rf v1), (2, .int (v2 + (1 : Int32)))]) rfl ?_
        exact ih _ _ _ _ _ hyp
set_option maxHeartbeats 4000000 in
set_option maxRecDepth 200000 in
theorem p_B_become_74 (F : Nat) {h0 : MH} : ∀ (n : Nat) (v0 : Option Nat) (v1 : Option Nat) (v2 : Int32) (h : MH) (r : MH), b_B_become_74 F  n v0 v1 v2 h = some r → Rt mi_B_become 2 h0 74 [(0, va_rf v0), (1, va_rf v1), (2, .int v2)] [] h none r := by
  intro n
  induction n with
  | zero =>
    intro v0 v1 v2 h r hyp
    cases hyp
  | succ n ih =>
    intro v0 v1 v2 h r hyp
    unfold b_B_become_74 at hyp
    refine rt_st (pc1 := 77) (fun _ _ B => go_iload_n 2 d_B_become_74 rfl (go_bipush (v := (24 : Int32)) d_B_become_75 (by decide) B)) ?_
    by_cases c1 : (24 : Int32) ≤ v2
    · replace hyp := (if_pos c1).symm.trans hyp
      refine rt_st (pc1 := 104) (fun _ _ B => go_icmp_ge_t 102 d_B_become_77 rfl c1 (go_iconst (v := (0 : Int32)) d_B_become_102 (by decide) (go_istore_n (lv1 := [(2, .int (0 : Int32)), (0, va_rf v0), (1, va_rf v1)]) d_B_become_103 (by decide) (by first | (simp [mj_s1, mj_s2, mj_rfc, mj_cti, mj_ctl]; done) | (simp [mj_s1, mj_s2, mj_rfc, mj_cti, mj_ctl]; decide)) B))) ?_
      refine rt_sub [1, 2, 0] (lv1 := [(0, va_rf v0), (1, va_rf v1), (2, .int (0 : Int32))]) rfl ?_
      exact p_B_become_104 F F _ _ _ _ r hyp
    · replace hyp := (if_neg c1).symm.trans hyp
      obtain ⟨x2, e3, hyp⟩ := Option.bind_eq_some_iff.mp hyp
      obtain ⟨x4, e5, hyp⟩ := Option.bind_eq_some_iff.mp hyp
      obtain ⟨x6, e7, hyp⟩ := Option.bind_eq_some_iff.mp hyp
      obtain ⟨h8, e9, hyp⟩ := Option.bind_eq_some_iff.mp hyp
      refine rt_st (pc1 := 74) (fun _ _ B => go_icmp_ge_f d_B_become_77 rfl c1 (go_aload_n 0 d_B_become_80 rfl (go_gfr d_B_become_81 fd_1_9 w246 e3 (go_iload_n 2 d_B_become_84 rfl (go_aload_n 1 d_B_become_85 rfl (go_gfr d_B_become_86 fd_1_9 w246 e5 (go_iload_n 2 d_B_become_89 rfl (go_callSN1 (st := [.int v2, va_rf x2]) [va_rf x4, .int v2] (t_C_at x4 v2 h _ e7) mm_C_at (by decide) d_B_become_90 w530 w343 rfl (Nat.le_of_ble_eq_true rfl) rfl (go_callSN0 (st := []) [va_rf x2, .int v2, .int x6] (t_C_put x2 v2 x6 h _ e9) mm_C_put (by decide) d_B_become_93 w531 w327 rfl (Nat.le_of_ble_eq_true rfl) rfl (go_iinc (v := (v2 + (1 : Int32))) (lv1 := [(2, .int (v2 + (1 : Int32))), (0, va_rf v0), (1, va_rf v1)]) 2 d_B_become_96 rfl rfl (by decide) (by first | (simp [mj_s1, mj_s2, mj_rfc, mj_cti, mj_ctl]; done) | (simp [mj_s1, mj_s2, mj_rfc, mj_cti, mj_ctl]; decide)) (go_goto 74 d_B_become_99 rfl B))))))))))) ?_
      refine rt_sub [1, 2, 0] (lv1 := [(0, va_rf v0), (1, va_rf v1), (2, .int (v2 + (1 : Int32)))]) rfl ?_
      exact ih _ _ _ _ _ hyp
set_option maxHeartbeats 4000000 in
set_option maxRecDepth 200000 in
theorem t_B_become (F : Nat) (v0 : Option Nat) (v1 : Option Nat) (h : MH) (r : MH) (hyp : f_B_become F v0 v1 h = some r) : Mt mi_B_become 2 [va_rf v0, va_rf v1] h none r := by
  refine Mt.rt (lv := [(0, va_rf v0), (1, va_rf v1)]) (by decide +kernel) (by simp [lv_args, mj_rfc, mj_cti, mj_ctl]) (by simp [mj_rfc, mj_cti, mj_ctl]) ?_
  unfold f_B_become at hyp
  obtain ⟨x1, e2, hyp⟩ := Option.bind_eq_some_iff.mp hyp
  obtain ⟨h3, e4, hyp⟩ := Option.bind_eq_some_iff.mp hyp
  obtain ⟨x5, e6, hyp⟩ := Option.bind_eq_some_iff.mp hyp
  obtain ⟨h7, e8, hyp⟩ := Option.bind_eq_some_iff.mp hyp
  obtain ⟨x9, e10, hyp⟩ := Option.bind_eq_some_iff.mp hyp
  obtain ⟨h11, e12, hyp⟩ := Option.bind_eq_some_iff.mp hyp
  obtain ⟨x13, e14, hyp⟩ := Option.bind_eq_some_iff.mp hyp
  obtain ⟨h15, e16, hyp⟩ := Option.bind_eq_some_iff.mp hyp
  obtain ⟨x17, e18, hyp⟩ := Option.bind_eq_some_iff.mp hyp
  obtain ⟨h19, e20, hyp⟩ := Option.bind_eq_some_iff.mp hyp
  obtain ⟨x21, e22, hyp⟩ := Option.bind_eq_some_iff.mp hyp
  obtain ⟨h23, e24, hyp⟩ := Option.bind_eq_some_iff.mp hyp
  obtain ⟨x25, e26, hyp⟩ := Option.bind_eq_some_iff.mp hyp
  obtain ⟨h27, e28, hyp⟩ := Option.bind_eq_some_iff.mp hyp
  obtain ⟨x29, e30, hyp⟩ := Option.bind_eq_some_iff.mp hyp
  obtain ⟨h31, e32, hyp⟩ := Option.bind_eq_some_iff.mp hyp
  obtain ⟨x33, e34, hyp⟩ := Option.bind_eq_some_iff.mp hyp
  obtain ⟨h35, e36, hyp⟩ := Option.bind_eq_some_iff.mp hyp
  refine rt_st (pc1 := 74) (fun _ _ B => go_aload_n 0 d_B_become_0 rfl (go_aload_n 1 d_B_become_1 rfl (go_gfi d_B_become_2 fd_1_0 w213 e2 (go_pfi d_B_become_5 fd_1_0 w213 (fun q => by cases q) e4 (go_aload_n 0 d_B_become_8 rfl (go_aload_n 1 d_B_become_9 rfl (go_gfi d_B_become_10 fd_1_1 w217 e6 (go_pfi d_B_become_13 fd_1_1 w217 (fun q => by cases q) e8 (go_aload_n 0 d_B_become_16 rfl (go_aload_n 1 d_B_become_17 rfl (go_gfi d_B_become_18 fd_1_2 w219 e10 (go_pfi d_B_become_21 fd_1_2 w219 (fun q => by cases q) e12 (go_aload_n 0 d_B_become_24 rfl (go_aload_n 1 d_B_become_25 rfl (go_gfi d_B_become_26 fd_1_3 w222 e14 (go_pfi d_B_become_29 fd_1_3 w222 (fun q => by cases q) e16 (go_aload_n 0 d_B_become_32 rfl (go_aload_n 1 d_B_become_33 rfl (go_gfi d_B_become_34 fd_1_4 w228 e18 (go_pfi d_B_become_37 fd_1_4 w228 (fun q => by cases q) e20 (go_aload_n 0 d_B_become_40 rfl (go_aload_n 1 d_B_become_41 rfl (go_gfi d_B_become_42 fd_1_5 w232 e22 (go_pfi d_B_become_45 fd_1_5 w232 (fun q => by cases q) e24 (go_aload_n 0 d_B_become_48 rfl (go_aload_n 1 d_B_become_49 rfl (go_gfi d_B_become_50 fd_1_6 w235 e26 (go_pfi d_B_become_53 fd_1_6 w235 (fun q => by cases q) e28 (go_aload_n 0 d_B_become_56 rfl (go_aload_n 1 d_B_become_57 rfl (go_gfi d_B_become_58 fd_1_7 w239 e30 (go_pfi d_B_become_61 fd_1_7 w239 (fun q => by cases q) e32 (go_aload_n 0 d_B_become_64 rfl (go_aload_n 1 d_B_become_65 rfl (go_gfi d_B_become_66 fd_1_8 w243 e34 (go_pfi d_B_become_69 fd_1_8 w243 (fun q => by cases q) e36 (go_iconst (v := (0 : Int32)) d_B_become_72 (by decide) (go_istore_n (lv1 := [(2, .int (0 : Int32)), (0, va_rf v0), (1, va_rf v1)]) d_B_become_73 (by decide) (by first | (simp [mj_s1, mj_s2, mj_rfc, mj_cti, mj_ctl]; done) | (simp [mj_s1, mj_s2, mj_rfc, mj_cti, mj_ctl]; decide)) B)))))))))))))))))))))))))))))))))))))) ?_
  refine rt_sub [1, 2, 0] (lv1 := [(0, va_rf v0), (1, va_rf v1), (2, .int (0 : Int32))]) rfl ?_
  exact p_B_become_74 F F _ _ _ _ r hyp
/-! WideTurn.within(II)Z -/
def f_C_within (v0 : Int32) (v1 : Int32) : Int32 :=
  if v0 < 0 then
    (0 : Int32)
  else
    if v1 ≤ v0 then
      (0 : Int32)
    else
      (1 : Int32)
set_option maxHeartbeats 4000000 in
set_option maxRecDepth 200000 in
theorem t_C_within (v0 : Int32) (v1 : Int32) (h : MH) : Mt mi_C_within 1 [.int v0, .int v1] h (some (.int (f_C_within v0 v1))) h := by
  refine Mt.rt (lv := [(0, .int v0), (1, .int v1)]) (by decide +kernel) (by simp [lv_args, mj_rfc, mj_cti, mj_ctl]) (by simp [mj_rfc, mj_cti, mj_ctl]) ?_
  unfold f_C_within
  refine rt_st (pc1 := 1) (fun _ _ B => go_iload_n 0 d_C_within_0 rfl B) ?_
  by_cases c1 : v0 < 0
  · rw [if_pos c1]
    refine rt_st (pc1 := 14) (fun _ _ B => go_if_lt_t 13 d_C_within_1 rfl c1 (go_iconst (v := (0 : Int32)) d_C_within_13 (by decide) B)) ?_
    exact rt_bool d_C_within_14 rfl (by decide)
  · rw [if_neg c1]
    refine rt_st (pc1 := 6) (fun _ _ B => go_if_lt_f d_C_within_1 rfl c1 (go_iload_n 0 d_C_within_4 rfl (go_iload_n 1 d_C_within_5 rfl B))) ?_
    by_cases c2 : v1 ≤ v0
    · rw [if_pos c2]
      refine rt_st (pc1 := 14) (fun _ _ B => go_icmp_ge_t 13 d_C_within_6 rfl c2 (go_iconst (v := (0 : Int32)) d_C_within_13 (by decide) B)) ?_
      exact rt_bool d_C_within_14 rfl (by decide)
    · rw [if_neg c2]
      refine rt_st (pc1 := 14) (fun _ _ B => go_icmp_ge_f d_C_within_6 rfl c2 (go_iconst (v := (1 : Int32)) d_C_within_9 (by decide) (go_goto 14 d_C_within_10 rfl B))) ?_
      exact rt_bool d_C_within_14 rfl (by decide)
set_option maxHeartbeats 4000000 in
set_option maxRecDepth 200000 in
theorem z_C_within (v0 : Int32) (v1 : Int32) : (f_C_within v0 v1) &&& 1 = f_C_within v0 v1 := by
  unfold f_C_within
  repeat' split
  all_goals first | decide | skip
/-! WideTurn.Basin.addHand(LWideTurn.Hand;)V -/
def f_B_addHand (v0 : Option Nat) (v1 : Option Nat) (h : MH) : Option MH :=
  Option.bind (gfi h v0 [1] 8) fun x1 =>
  Option.bind (gfr h v0 [1] 10) fun x3 =>
  Option.bind (alen h x3) fun x5 =>
  if (f_C_within x1 x5) = 0 then
    some h
  else
    Option.bind (gfr h v0 [1] 10) fun x8 =>
    Option.bind (gfi h v0 [1] 8) fun x10 =>
    Option.bind (qst h x8 2 [2, 3, 4, 7, 8] x10 v1) fun h12 =>
    Option.bind (gfi h12 v0 [1] 8) fun x14 =>
    Option.bind (pfv h12 v0 [1] 8 (.int (x14 + (1 : Int32)))) fun h16 =>
    some h16
set_option maxHeartbeats 4000000 in
set_option maxRecDepth 200000 in
theorem t_B_addHand (v0 : Option Nat) (v1 : Option Nat) (h : MH) (r : MH) (hyp : f_B_addHand v0 v1 h = some r) : Mt mi_B_addHand 2 [va_rf v0, va_rf v1] h none r := by
  refine Mt.rt (lv := [(0, va_rf v0), (1, va_rf v1)]) (by decide +kernel) (by simp [lv_args, mj_rfc, mj_cti, mj_ctl]) (by simp [mj_rfc, mj_cti, mj_ctl]) ?_
  unfold f_B_addHand at hyp
  obtain ⟨x1, e2, hyp⟩ := Option.bind_eq_some_iff.mp hyp
  obtain ⟨x3, e4, hyp⟩ := Option.bind_eq_some_iff.mp hyp
  obtain ⟨x5, e6, hyp⟩ := Option.bind_eq_some_iff.mp hyp
  refine rt_st (pc1 := 12) (fun _ _ B => go_aload_n 0 d_B_addHand_0 rfl (go_gfi d_B_addHand_1 fd_1_8 w243 e2 (go_aload_n 0 d_B_addHand_4 rfl (go_gfr d_B_addHand_5 fd_1_10 w250 e4 (go_alen d_B_addHand_8 e6 (go_callSN1 (st := []) [.int x1, .int x5] (t_C_within x1 x5 h) mm_C_within (by decide) d_B_addHand_9 w520 w314 rfl (Nat.le_of_ble_eq_true rfl) rfl B)))))) ?_
  by_cases c7 : (f_C_within x1 x5) = 0
  · replace hyp := (if_pos c7).symm.trans hyp
    refine rt_st (pc1 := 35) (fun _ _ B => go_if_eq_t 35 d_B_addHand_12 rfl c7 B) ?_
    exact rt_eq0 hyp (rt_void d_B_addHand_35 rfl)
  · replace hyp := (if_neg c7).symm.trans hyp
    obtain ⟨x8, e9, hyp⟩ := Option.bind_eq_some_iff.mp hyp
    obtain ⟨x10, e11, hyp⟩ := Option.bind_eq_some_iff.mp hyp
    obtain ⟨h12, e13, hyp⟩ := Option.bind_eq_some_iff.mp hyp
    obtain ⟨x14, e15, hyp⟩ := Option.bind_eq_some_iff.mp hyp
    obtain ⟨h16, e17, hyp⟩ := Option.bind_eq_some_iff.mp hyp
    refine rt_st (pc1 := 35) (fun _ _ B => go_if_eq_f d_B_addHand_12 rfl c7 (go_aload_n 0 d_B_addHand_15 rfl (go_gfr d_B_addHand_16 fd_1_10 w250 e9 (go_aload_n 0 d_B_addHand_19 rfl (go_gfi d_B_addHand_20 fd_1_8 w243 e11 (go_aload_n 1 d_B_addHand_23 rfl (go_qst (cs := [2, 3, 4, 7, 8]) (by decide) mj_fit2 d_B_addHand_24 e13 (go_aload_n 0 d_B_addHand_25 rfl (go_dup d_B_addHand_26 (mj_rfc _) (go_gfi d_B_addHand_27 fd_1_8 w243 e15 (go_iconst (v := (1 : Int32)) d_B_addHand_30 (by decide) (go_iadd d_B_addHand_31 (go_pfi d_B_addHand_32 fd_1_8 w243 (fun q => by cases q) e17 B))))))))))))) ?_
    exact rt_eq0 hyp (rt_void d_B_addHand_35 rfl)
/-! WideTurn.Basin.handAt(I)LWideTurn.Hand; -/
def f_B_handAt (v0 : Option Nat) (v1 : Int32) (h : MH) : Option (Option Nat) :=
  Option.bind (gfi h v0 [1] 8) fun x1 =>
  if (f_C_within v1 x1) = 0 then
    some none
  else
    Option.bind (gfr h v0 [1] 10) fun x4 =>
    Option.bind (alen h x4) fun x6 =>
    if x6 ≤ v1 then
      some none
    else
      Option.bind (gfr h v0 [1] 10) fun x9 =>
      Option.bind (qld h x9 2 v1) fun x11 =>
      some x11
set_option maxHeartbeats 4000000 in
set_option maxRecDepth 200000 in
theorem t_B_handAt (v0 : Option Nat) (v1 : Int32) (h : MH) (r : (Option Nat)) (hyp : f_B_handAt v0 v1 h = some r) : Mt mi_B_handAt 2 [va_rf v0, .int v1] h (some (va_rf r)) h := by
  refine Mt.rt (lv := [(0, va_rf v0), (1, .int v1)]) (by decide +kernel) (by simp [lv_args, mj_rfc, mj_cti, mj_ctl]) (by simp [mj_rfc, mj_cti, mj_ctl]) ?_
  unfold f_B_handAt at hyp
  obtain ⟨x1, e2, hyp⟩ := Option.bind_eq_some_iff.mp hyp
  refine rt_st (pc1 := 8) (fun _ _ B => go_iload_n 1 d_B_handAt_0 rfl (go_aload_n 0 d_B_handAt_1 rfl (go_gfi d_B_handAt_2 fd_1_8 w243 e2 (go_callSN1 (st := []) [.int v1, .int x1] (t_C_within v1 x1 h) mm_C_within (by decide) d_B_handAt_5 w520 w314 rfl (Nat.le_of_ble_eq_true rfl) rfl B)))) ?_
  by_cases c3 : (f_C_within v1 x1) = 0
  · replace hyp := (if_pos c3).symm.trans hyp
    refine rt_st (pc1 := 30) (fun _ _ B => go_if_eq_t 29 d_B_handAt_8 rfl c3 (go_null d_B_handAt_29 B)) ?_
    exact rt_eqR va_rf hyp (rt_ref d_B_handAt_30 rfl)
  · replace hyp := (if_neg c3).symm.trans hyp
    obtain ⟨x4, e5, hyp⟩ := Option.bind_eq_some_iff.mp hyp
    obtain ⟨x6, e7, hyp⟩ := Option.bind_eq_some_iff.mp hyp
    refine rt_st (pc1 := 17) (fun _ _ B => go_if_eq_f d_B_handAt_8 rfl c3 (go_iload_n 1 d_B_handAt_11 rfl (go_aload_n 0 d_B_handAt_12 rfl (go_gfr d_B_handAt_13 fd_1_10 w250 e5 (go_alen d_B_handAt_16 e7 B))))) ?_
    by_cases c8 : x6 ≤ v1
    · replace hyp := (if_pos c8).symm.trans hyp
      refine rt_st (pc1 := 30) (fun _ _ B => go_icmp_ge_t 29 d_B_handAt_17 rfl c8 (go_null d_B_handAt_29 B)) ?_
      exact rt_eqR va_rf hyp (rt_ref d_B_handAt_30 rfl)
    · replace hyp := (if_neg c8).symm.trans hyp
      obtain ⟨x9, e10, hyp⟩ := Option.bind_eq_some_iff.mp hyp
      obtain ⟨x11, e12, hyp⟩ := Option.bind_eq_some_iff.mp hyp
      refine rt_st (pc1 := 30) (fun _ _ B => go_icmp_ge_f d_B_handAt_17 rfl c8 (go_aload_n 0 d_B_handAt_20 rfl (go_gfr d_B_handAt_21 fd_1_10 w250 e10 (go_iload_n 1 d_B_handAt_24 rfl (go_qld (by decide) d_B_handAt_25 e12 (go_goto 30 d_B_handAt_26 rfl B)))))) ?_
      exact rt_eqR va_rf hyp (rt_ref d_B_handAt_30 rfl)
/-! WideTurn.Basin.sinks()I -/
def f_B_sinks (v0 : Option Nat) (h : MH) : Option (Int32) :=
  Option.bind (gfi h v0 [1] 5) fun x1 =>
  if x1 = (1 : Int32) then
    Option.bind (gfi h v0 [1] 1) fun x4 =>
    Option.bind (gfi h v0 [1] 2) fun x6 =>
    some (x4 + x6)
  else
    Option.bind (gfi h v0 [1] 1) fun x8 =>
    some x8
set_option maxHeartbeats 4000000 in
set_option maxRecDepth 200000 in
theorem t_B_sinks (v0 : Option Nat) (h : MH) (r : (Int32)) (hyp : f_B_sinks v0 h = some r) : Mt mi_B_sinks 1 [va_rf v0] h (some (.int r)) h := by
  refine Mt.rt (lv := [(0, va_rf v0)]) (by decide +kernel) (by simp [lv_args, mj_rfc, mj_cti, mj_ctl]) (by simp [mj_rfc, mj_cti, mj_ctl]) ?_
  unfold f_B_sinks at hyp
  obtain ⟨x1, e2, hyp⟩ := Option.bind_eq_some_iff.mp hyp
  refine rt_st (pc1 := 5) (fun _ _ B => go_aload_n 0 d_B_sinks_0 rfl (go_gfi d_B_sinks_1 fd_1_5 w232 e2 (go_iconst (v := (1 : Int32)) d_B_sinks_4 (by decide) B))) ?_
  by_cases c3 : x1 = (1 : Int32)
  · replace hyp := (if_pos c3).symm.trans hyp
    obtain ⟨x4, e5, hyp⟩ := Option.bind_eq_some_iff.mp hyp
    obtain ⟨x6, e7, hyp⟩ := Option.bind_eq_some_iff.mp hyp
    refine rt_st (pc1 := 24) (fun _ _ B => go_icmp_ne_f d_B_sinks_5 rfl c3 (go_aload_n 0 d_B_sinks_8 rfl (go_gfi d_B_sinks_9 fd_1_1 w217 e5 (go_aload_n 0 d_B_sinks_12 rfl (go_gfi d_B_sinks_13 fd_1_2 w219 e7 (go_iadd d_B_sinks_16 (go_goto 24 d_B_sinks_17 rfl B))))))) ?_
    exact rt_eqR Value.int hyp (rt_int d_B_sinks_24 rfl)
  · replace hyp := (if_neg c3).symm.trans hyp
    obtain ⟨x8, e9, hyp⟩ := Option.bind_eq_some_iff.mp hyp
    refine rt_st (pc1 := 24) (fun _ _ B => go_icmp_ne_t 20 d_B_sinks_5 rfl c3 (go_aload_n 0 d_B_sinks_20 rfl (go_gfi d_B_sinks_21 fd_1_1 w217 e9 B))) ?_
    exact rt_eqR Value.int hyp (rt_int d_B_sinks_24 rfl)
/-! WideTurn.Basin.isBlown()Z -/
def f_B_isBlown (v0 : Option Nat) (h : MH) : Option (Int32) :=
  Option.bind (gfi h v0 [1] 5) fun x1 =>
  if x1 = 0 then
    Option.bind (gfi h v0 [1] 0) fun x4 =>
    if x4 ≤ 0 then
      some (0 : Int32)
    else
      some (1 : Int32)
  else
    some (0 : Int32)
set_option maxHeartbeats 4000000 in
set_option maxRecDepth 200000 in
theorem t_B_isBlown (v0 : Option Nat) (h : MH) (r : (Int32)) (hyp : f_B_isBlown v0 h = some r) : Mt mi_B_isBlown 1 [va_rf v0] h (some (.int r)) h := by
  refine Mt.rt (lv := [(0, va_rf v0)]) (by decide +kernel) (by simp [lv_args, mj_rfc, mj_cti, mj_ctl]) (by simp [mj_rfc, mj_cti, mj_ctl]) ?_
  unfold f_B_isBlown at hyp
  obtain ⟨x1, e2, hyp⟩ := Option.bind_eq_some_iff.mp hyp
  refine rt_st (pc1 := 4) (fun _ _ B => go_aload_n 0 d_B_isBlown_0 rfl (go_gfi d_B_isBlown_1 fd_1_5 w232 e2 B)) ?_
  by_cases c3 : x1 = 0
  · replace hyp := (if_pos c3).symm.trans hyp
    obtain ⟨x4, e5, hyp⟩ := Option.bind_eq_some_iff.mp hyp
    refine rt_st (pc1 := 11) (fun _ _ B => go_if_ne_f d_B_isBlown_4 rfl c3 (go_aload_n 0 d_B_isBlown_7 rfl (go_gfi d_B_isBlown_8 fd_1_0 w213 e5 B))) ?_
    by_cases c6 : x4 ≤ 0
    · replace hyp := (if_pos c6).symm.trans hyp
      refine rt_st (pc1 := 19) (fun _ _ B => go_if_le_t 18 d_B_isBlown_11 rfl c6 (go_iconst (v := (0 : Int32)) d_B_isBlown_18 (by decide) B)) ?_
      exact rt_eqR Value.int hyp (rt_bool d_B_isBlown_19 rfl (by decide))
    · replace hyp := (if_neg c6).symm.trans hyp
      refine rt_st (pc1 := 19) (fun _ _ B => go_if_le_f d_B_isBlown_11 rfl c6 (go_iconst (v := (1 : Int32)) d_B_isBlown_14 (by decide) (go_goto 19 d_B_isBlown_15 rfl B))) ?_
      exact rt_eqR Value.int hyp (rt_bool d_B_isBlown_19 rfl (by decide))
  · replace hyp := (if_neg c3).symm.trans hyp
    refine rt_st (pc1 := 19) (fun _ _ B => go_if_ne_t 18 d_B_isBlown_4 rfl c3 (go_iconst (v := (0 : Int32)) d_B_isBlown_18 (by decide) B)) ?_
    exact rt_eqR Value.int hyp (rt_bool d_B_isBlown_19 rfl (by decide))
/-! WideTurn.Basin.clearance(I)I -/
def b_B_clearance_29 (h : MH) : (Option Nat) → (Int32) → (Int32) → (Option (Int32)) := fun v0 v1 s0 => 
  if s0 = 0 then
    some (-1 : Int32)
  else
    Option.bind (gfr h v0 [1] 9) fun x2 =>
    Option.bind (ald h x2 0 v1) fun x4 =>
    some x4
def b_B_clearance_28 (h : MH) : (Option Nat) → (Int32) → (Option (Int32)) := fun v0 v1 => 
  b_B_clearance_29 h v0 v1 (0 : Int32)
def f_B_clearance (v0 : Option Nat) (v1 : Int32) (h : MH) : Option (Int32) :=
  if v1 < 0 then
    b_B_clearance_28 h v0 v1
  else
    Option.bind (gfr h v0 [1] 9) fun x2 =>
    Option.bind (alen h x2) fun x4 =>
    if x4 ≤ v1 then
      b_B_clearance_28 h v0 v1
    else
      Option.bind (gfi h v0 [1] 7) fun x7 =>
      if ((x7 >>> (v1 &&& 31)) &&& (1 : Int32)) = 0 then
        b_B_clearance_29 h v0 v1 (1 : Int32)
      else
        b_B_clearance_28 h v0 v1
set_option maxHeartbeats 4000000 in
set_option maxRecDepth 200000 in
theorem p_B_clearance_29 (h : MH) {h0 : MH} (v0 : Option Nat) (v1 : Int32) (s0 : Int32) (r : (Int32)) : b_B_clearance_29 h  v0 v1 s0 = some r → Rt mi_B_clearance 1 h0 29 [(0, va_rf v0), (1, .int v1)] [.int s0] h (some (.int r)) h := by
  intro hyp
  unfold b_B_clearance_29 at hyp
  refine rt_st (pc1 := 31) (fun _ _ B => go_istore_n (lv1 := [(2, .int s0), (0, va_rf v0), (1, .int v1)]) d_B_clearance_29 (by decide) rfl (go_iload_n 0 d_B_clearance_30 rfl B)) ?_
  by_cases c1 : s0 = 0
  · replace hyp := (if_pos c1).symm.trans hyp
    refine rt_st (pc1 := 44) (fun _ _ B => go_if_eq_t 43 d_B_clearance_31 rfl c1 (go_iconst (v := (-1 : Int32)) d_B_clearance_43 (by decide) B)) ?_
    exact rt_eqR Value.int hyp (rt_int d_B_clearance_44 rfl)
  · replace hyp := (if_neg c1).symm.trans hyp
    obtain ⟨x2, e3, hyp⟩ := Option.bind_eq_some_iff.mp hyp
    obtain ⟨x4, e5, hyp⟩ := Option.bind_eq_some_iff.mp hyp
    refine rt_st (pc1 := 44) (fun _ _ B => go_if_eq_f d_B_clearance_31 rfl c1 (go_aload_n 1 d_B_clearance_34 rfl (go_gfr d_B_clearance_35 fd_1_9 w246 e3 (go_iload_n 2 d_B_clearance_38 rfl (go_iald d_B_clearance_39 e5 (go_goto 44 d_B_clearance_40 rfl B)))))) ?_
    exact rt_eqR Value.int hyp (rt_int d_B_clearance_44 rfl)
set_option maxHeartbeats 4000000 in
set_option maxRecDepth 200000 in
theorem p_B_clearance_28 (h : MH) {h0 : MH} (v0 : Option Nat) (v1 : Int32) (r : (Int32)) : b_B_clearance_28 h  v0 v1 = some r → Rt mi_B_clearance 1 h0 28 [(0, va_rf v0), (1, .int v1)] [] h (some (.int r)) h := by
  intro hyp
  unfold b_B_clearance_28 at hyp
  refine rt_st (pc1 := 29) (fun _ _ B => go_iconst (v := (0 : Int32)) d_B_clearance_28 (by decide) B) ?_
  exact p_B_clearance_29 h _ _ _ r hyp
set_option maxHeartbeats 4000000 in
set_option maxRecDepth 200000 in
theorem t_B_clearance (v0 : Option Nat) (v1 : Int32) (h : MH) (r : (Int32)) (hyp : f_B_clearance v0 v1 h = some r) : Mt mi_B_clearance 1 [va_rf v0, .int v1] h (some (.int r)) h := by
  refine Mt.rt (lv := [(0, va_rf v0), (1, .int v1)]) (by decide +kernel) (by simp [lv_args, mj_rfc, mj_cti, mj_ctl]) (by simp [mj_rfc, mj_cti, mj_ctl]) ?_
  unfold f_B_clearance at hyp
  refine rt_st (pc1 := 1) (fun _ _ B => go_iload_n 1 d_B_clearance_0 rfl B) ?_
  by_cases c1 : v1 < 0
  · replace hyp := (if_pos c1).symm.trans hyp
    refine rt_st (pc1 := 28) (fun _ _ B => go_if_lt_t 28 d_B_clearance_1 rfl c1 B) ?_
    exact p_B_clearance_28 h _ _ r hyp
  · replace hyp := (if_neg c1).symm.trans hyp
    obtain ⟨x2, e3, hyp⟩ := Option.bind_eq_some_iff.mp hyp
    obtain ⟨x4, e5, hyp⟩ := Option.bind_eq_some_iff.mp hyp
    refine rt_st (pc1 := 10) (fun _ _ B => go_if_lt_f d_B_clearance_1 rfl c1 (go_iload_n 1 d_B_clearance_4 rfl (go_aload_n 0 d_B_clearance_5 rfl (go_gfr d_B_clearance_6 fd_1_9 w246 e3 (go_alen d_B_clearance_9 e5 B))))) ?_
    by_cases c6 : x4 ≤ v1
    · replace hyp := (if_pos c6).symm.trans hyp
      refine rt_st (pc1 := 28) (fun _ _ B => go_icmp_ge_t 28 d_B_clearance_10 rfl c6 B) ?_
      exact p_B_clearance_28 h _ _ r hyp
    · replace hyp := (if_neg c6).symm.trans hyp
      obtain ⟨x7, e8, hyp⟩ := Option.bind_eq_some_iff.mp hyp
      refine rt_st (pc1 := 21) (fun _ _ B => go_icmp_ge_f d_B_clearance_10 rfl c6 (go_aload_n 0 d_B_clearance_13 rfl (go_gfi d_B_clearance_14 fd_1_7 w239 e8 (go_iload_n 1 d_B_clearance_17 rfl (go_ishr d_B_clearance_18 (go_iconst (v := (1 : Int32)) d_B_clearance_19 (by decide) (go_iand d_B_clearance_20 B))))))) ?_
      by_cases c9 : ((x7 >>> (v1 &&& 31)) &&& (1 : Int32)) = 0
      · replace hyp := (if_pos c9).symm.trans hyp
        refine rt_st (pc1 := 29) (fun _ _ B => go_if_ne_f d_B_clearance_21 rfl c9 (go_iconst (v := (1 : Int32)) d_B_clearance_24 (by decide) (go_goto 29 d_B_clearance_25 rfl B))) ?_
        exact p_B_clearance_29 h _ _ _ r hyp
      · replace hyp := (if_neg c9).symm.trans hyp
        refine rt_st (pc1 := 28) (fun _ _ B => go_if_ne_t 28 d_B_clearance_21 rfl c9 B) ?_
        exact p_B_clearance_28 h _ _ r hyp
/-! WideTurn.beside(II)I -/
def f_C_beside (v0 : Int32) (v1 : Int32) (h : MH) : Option (Int32) :=
  if v0 < 0 then
    some (-1 : Int32)
  else
    if (24 : Int32) ≤ v0 then
      some (-1 : Int32)
    else
      Option.bind (alen h (some 0)) fun x3 =>
      if x3 ≤ (v1 &&& (7 : Int32)) then
        some (-1 : Int32)
      else
        Option.bind (alen h (some 1)) fun x6 =>
        if (v1 &&& (7 : Int32)) < x6 then
          Option.bind (ald h (some 0) 0 (v1 &&& (7 : Int32))) fun x9 =>
          Option.bind (ald h (some 1) 0 (v1 &&& (7 : Int32))) fun x11 =>
          if ((mj_irem v0 (6 : Int32)) + x9) < 0 then
            some (-1 : Int32)
          else
            if (6 : Int32) ≤ ((mj_irem v0 (6 : Int32)) + x9) then
              some (-1 : Int32)
            else
              if ((v0 / (6 : Int32)) + x11) < 0 then
                some (-1 : Int32)
              else
                if (4 : Int32) ≤ ((v0 / (6 : Int32)) + x11) then
                  some (-1 : Int32)
                else
                  some (((6 : Int32) * ((v0 / (6 : Int32)) + x11)) + ((mj_irem v0 (6 : Int32)) + x9))
        else
          some (-1 : Int32)
set_option maxHeartbeats 4000000 in
set_option maxRecDepth 200000 in
theorem t_C_beside (v0 : Int32) (v1 : Int32) (h : MH) (r : (Int32)) (hyp : f_C_beside v0 v1 h = some r) : Mt mi_C_beside 1 [.int v0, .int v1] h (some (.int r)) h := by
  refine Mt.rt (lv := [(0, .int v0), (1, .int v1)]) (by decide +kernel) (by simp [lv_args, mj_rfc, mj_cti, mj_ctl]) (by simp [mj_rfc, mj_cti, mj_ctl]) ?_
  unfold f_C_beside at hyp
  refine rt_st (pc1 := 6) (fun _ _ B => go_iload_n 1 d_C_beside_0 rfl (go_bipush (v := (7 : Int32)) d_C_beside_1 (by decide) (go_iand d_C_beside_3 (go_istore_n (lv1 := [(2, .int (v1 &&& (7 : Int32))), (0, .int v0), (1, .int v1)]) d_C_beside_4 (by decide) rfl (go_iload_n 1 d_C_beside_5 rfl B))))) ?_
  by_cases c1 : v0 < 0
  · replace hyp := (if_pos c1).symm.trans hyp
    refine rt_st (pc1 := 32) (fun _ _ B => go_if_lt_t 31 d_C_beside_6 rfl c1 (go_iconst (v := (-1 : Int32)) d_C_beside_31 (by decide) B)) ?_
    exact rt_eqR Value.int hyp (rt_int d_C_beside_32 rfl)
  · replace hyp := (if_neg c1).symm.trans hyp
    refine rt_st (pc1 := 12) (fun _ _ B => go_if_lt_f d_C_beside_6 rfl c1 (go_iload_n 1 d_C_beside_9 rfl (go_bipush (v := (24 : Int32)) d_C_beside_10 (by decide) B))) ?_
    by_cases c2 : (24 : Int32) ≤ v0
    · replace hyp := (if_pos c2).symm.trans hyp
      refine rt_st (pc1 := 32) (fun _ _ B => go_icmp_ge_t 31 d_C_beside_12 rfl c2 (go_iconst (v := (-1 : Int32)) d_C_beside_31 (by decide) B)) ?_
      exact rt_eqR Value.int hyp (rt_int d_C_beside_32 rfl)
    · replace hyp := (if_neg c2).symm.trans hyp
      obtain ⟨x3, e4, hyp⟩ := Option.bind_eq_some_iff.mp hyp
      refine rt_st (pc1 := 20) (fun _ _ B => go_icmp_ge_f d_C_beside_12 rfl c2 (go_iload_n 0 d_C_beside_15 rfl (go_gets (i := 0) (by decide) rfl d_C_beside_16 w614 (go_alen d_C_beside_19 e4 B)))) ?_
      by_cases c5 : x3 ≤ (v1 &&& (7 : Int32))
      · replace hyp := (if_pos c5).symm.trans hyp
        refine rt_st (pc1 := 32) (fun _ _ B => go_icmp_ge_t 31 d_C_beside_20 rfl c5 (go_iconst (v := (-1 : Int32)) d_C_beside_31 (by decide) B)) ?_
        exact rt_eqR Value.int hyp (rt_int d_C_beside_32 rfl)
      · replace hyp := (if_neg c5).symm.trans hyp
        obtain ⟨x6, e7, hyp⟩ := Option.bind_eq_some_iff.mp hyp
        refine rt_st (pc1 := 28) (fun _ _ B => go_icmp_ge_f d_C_beside_20 rfl c5 (go_iload_n 0 d_C_beside_23 rfl (go_gets (i := 1) (by decide) rfl d_C_beside_24 w616 (go_alen d_C_beside_27 e7 B)))) ?_
        by_cases c8 : (v1 &&& (7 : Int32)) < x6
        · replace hyp := (if_pos c8).symm.trans hyp
          obtain ⟨x9, e10, hyp⟩ := Option.bind_eq_some_iff.mp hyp
          obtain ⟨x11, e12, hyp⟩ := Option.bind_eq_some_iff.mp hyp
          refine rt_st (pc1 := 57) (fun _ _ B => go_icmp_lt_t 33 d_C_beside_28 rfl c8 (go_iload_n 1 d_C_beside_33 rfl (go_bipush (v := (6 : Int32)) d_C_beside_34 (by decide) (go_irem d_C_beside_36 (by decide) (go_gets (i := 0) (by decide) rfl d_C_beside_37 w614 (go_iload_n 0 d_C_beside_40 rfl (go_iald d_C_beside_41 e10 (go_iadd d_C_beside_42 (go_istore_n (lv1 := [(3, .int ((mj_irem v0 (6 : Int32)) + x9)), (2, .int (v1 &&& (7 : Int32))), (0, .int v0), (1, .int v1)]) d_C_beside_43 (by decide) rfl (go_iload_n 2 d_C_beside_44 rfl (go_bipush (v := (6 : Int32)) d_C_beside_45 (by decide) (go_idiv d_C_beside_47 (by decide) (go_gets (i := 1) (by decide) rfl d_C_beside_48 w616 (go_iload_n 1 d_C_beside_51 rfl (go_iald d_C_beside_52 e12 (go_iadd d_C_beside_53 (go_istore (lv1 := [(4, .int ((v0 / (6 : Int32)) + x11)), (3, .int ((mj_irem v0 (6 : Int32)) + x9)), (2, .int (v1 &&& (7 : Int32))), (0, .int v0), (1, .int v1)]) d_C_beside_54 (by decide) rfl (go_iload_n 1 d_C_beside_56 rfl B)))))))))))))))))) ?_
          by_cases c13 : ((mj_irem v0 (6 : Int32)) + x9) < 0
          · replace hyp := (if_pos c13).symm.trans hyp
            refine rt_st (pc1 := 88) (fun _ _ B => go_if_lt_t 87 d_C_beside_57 rfl c13 (go_iconst (v := (-1 : Int32)) d_C_beside_87 (by decide) B)) ?_
            exact rt_eqR Value.int hyp (rt_int d_C_beside_88 rfl)
          · replace hyp := (if_neg c13).symm.trans hyp
            refine rt_st (pc1 := 63) (fun _ _ B => go_if_lt_f d_C_beside_57 rfl c13 (go_iload_n 1 d_C_beside_60 rfl (go_bipush (v := (6 : Int32)) d_C_beside_61 (by decide) B))) ?_
            by_cases c14 : (6 : Int32) ≤ ((mj_irem v0 (6 : Int32)) + x9)
            · replace hyp := (if_pos c14).symm.trans hyp
              refine rt_st (pc1 := 88) (fun _ _ B => go_icmp_ge_t 87 d_C_beside_63 rfl c14 (go_iconst (v := (-1 : Int32)) d_C_beside_87 (by decide) B)) ?_
              exact rt_eqR Value.int hyp (rt_int d_C_beside_88 rfl)
            · replace hyp := (if_neg c14).symm.trans hyp
              refine rt_st (pc1 := 68) (fun _ _ B => go_icmp_ge_f d_C_beside_63 rfl c14 (go_iload 0 d_C_beside_66 rfl B)) ?_
              by_cases c15 : ((v0 / (6 : Int32)) + x11) < 0
              · replace hyp := (if_pos c15).symm.trans hyp
                refine rt_st (pc1 := 88) (fun _ _ B => go_if_lt_t 87 d_C_beside_68 rfl c15 (go_iconst (v := (-1 : Int32)) d_C_beside_87 (by decide) B)) ?_
                exact rt_eqR Value.int hyp (rt_int d_C_beside_88 rfl)
              · replace hyp := (if_neg c15).symm.trans hyp
                refine rt_st (pc1 := 74) (fun _ _ B => go_if_lt_f d_C_beside_68 rfl c15 (go_iload 0 d_C_beside_71 rfl (go_iconst (v := (4 : Int32)) d_C_beside_73 (by decide) B))) ?_
                by_cases c16 : (4 : Int32) ≤ ((v0 / (6 : Int32)) + x11)
                · replace hyp := (if_pos c16).symm.trans hyp
                  refine rt_st (pc1 := 88) (fun _ _ B => go_icmp_ge_t 87 d_C_beside_74 rfl c16 (go_iconst (v := (-1 : Int32)) d_C_beside_87 (by decide) B)) ?_
                  exact rt_eqR Value.int hyp (rt_int d_C_beside_88 rfl)
                · replace hyp := (if_neg c16).symm.trans hyp
                  refine rt_st (pc1 := 88) (fun _ _ B => go_icmp_ge_f d_C_beside_74 rfl c16 (go_bipush (v := (6 : Int32)) d_C_beside_77 (by decide) (go_iload 0 d_C_beside_79 rfl (go_imul d_C_beside_81 (go_iload_n 1 d_C_beside_82 rfl (go_iadd d_C_beside_83 (go_goto 88 d_C_beside_84 rfl B))))))) ?_
                  exact rt_eqR Value.int hyp (rt_int d_C_beside_88 rfl)
        · replace hyp := (if_neg c8).symm.trans hyp
          refine rt_st (pc1 := 32) (fun _ _ B => go_icmp_lt_f d_C_beside_28 rfl c8 (go_iconst (v := (-1 : Int32)) d_C_beside_31 (by decide) B)) ?_
          exact rt_eqR Value.int hyp (rt_int d_C_beside_32 rfl)
/-! WideTurn.Basin.shallowest(II)I -/
def f_B_shallowest (v0 : Option Nat) (v1 : Int32) (v2 : Int32) (h : MH) : Option (Int32) :=
  Option.bind (onc h v0 1 (f_B_clearance v0 v1 h)) fun x1 =>
  Option.bind (f_C_beside v1 v2 h) fun x3 =>
  Option.bind (onc h v0 1 (f_B_clearance v0 x3 h)) fun x5 =>
  Option.bind (f_C_beside v1 (v2 + (4 : Int32)) h) fun x7 =>
  Option.bind (onc h v0 1 (f_B_clearance v0 x7 h)) fun x9 =>
  some (mj_min x1 (mj_min x5 x9))
set_option maxHeartbeats 4000000 in
set_option maxRecDepth 200000 in
theorem t_B_shallowest (v0 : Option Nat) (v1 : Int32) (v2 : Int32) (h : MH) (r : (Int32)) (hyp : f_B_shallowest v0 v1 v2 h = some r) : Mt mi_B_shallowest 2 [va_rf v0, .int v1, .int v2] h (some (.int r)) h := by
  refine Mt.rt (lv := [(0, va_rf v0), (1, .int v1), (2, .int v2)]) (by decide +kernel) (by simp [lv_args, mj_rfc, mj_cti, mj_ctl]) (by simp [mj_rfc, mj_cti, mj_ctl]) ?_
  unfold f_B_shallowest at hyp
  obtain ⟨x1, e2, hyp⟩ := Option.bind_eq_some_iff.mp hyp
  obtain ⟨x3, e4, hyp⟩ := Option.bind_eq_some_iff.mp hyp
  obtain ⟨x5, e6, hyp⟩ := Option.bind_eq_some_iff.mp hyp
  obtain ⟨x7, e8, hyp⟩ := Option.bind_eq_some_iff.mp hyp
  obtain ⟨x9, e10, hyp⟩ := Option.bind_eq_some_iff.mp hyp
  refine rt_st (pc1 := 31) (fun _ _ B => go_aload_n 0 d_B_shallowest_0 rfl (go_iload_n 1 d_B_shallowest_1 rfl (go_callV1 (q := q_1) (st := []) [.int v1] (t_B_clearance v0 v1 h _ (onc_spec e2).2) mm_B_clearance (by decide) d_B_shallowest_2 (onc_spec e2).1 rfl rfl w626 w628 w12 rfl (Nat.le_of_ble_eq_true rfl) rfl (go_aload_n 0 d_B_shallowest_5 rfl (go_iload_n 1 d_B_shallowest_6 rfl (go_iload_n 2 d_B_shallowest_7 rfl (go_callSN1 (st := [va_rf v0, .int x1]) [.int v1, .int v2] (t_C_beside v1 v2 h _ e4) mm_C_beside (by decide) d_B_shallowest_8 w630 w612 rfl (Nat.le_of_ble_eq_true rfl) rfl (go_callV1 (q := q_1) (st := [.int x1]) [.int x3] (t_B_clearance v0 x3 h _ (onc_spec e6).2) mm_B_clearance (by decide) d_B_shallowest_11 (onc_spec e6).1 rfl rfl w626 w628 w12 rfl (Nat.le_of_ble_eq_true rfl) rfl (go_aload_n 0 d_B_shallowest_14 rfl (go_iload_n 1 d_B_shallowest_15 rfl (go_iload_n 2 d_B_shallowest_16 rfl (go_iconst (v := (4 : Int32)) d_B_shallowest_17 (by decide) (go_iadd d_B_shallowest_18 (go_callSN1 (st := [va_rf v0, .int x5, .int x1]) [.int v1, .int (v2 + (4 : Int32))] (t_C_beside v1 (v2 + (4 : Int32)) h _ e8) mm_C_beside (by decide) d_B_shallowest_19 w630 w612 rfl (Nat.le_of_ble_eq_true rfl) rfl (go_callV1 (q := q_1) (st := [.int x5, .int x1]) [.int x7] (t_B_clearance v0 x7 h _ (onc_spec e10).2) mm_B_clearance (by decide) d_B_shallowest_22 (onc_spec e10).1 rfl rfl w626 w628 w12 rfl (Nat.le_of_ble_eq_true rfl) rfl (go_mmin (st := [.int x1]) (by decide) (Nat.le_of_ble_eq_true rfl) d_B_shallowest_25 w631 (go_mmin (st := []) (by decide) (Nat.le_of_ble_eq_true rfl) d_B_shallowest_28 w631 B))))))))))))))))) ?_
  exact rt_eqR Value.int hyp (rt_int d_B_shallowest_31 rfl)
/-! WideTurn.Basin.fitsNow()Z -/
def f_B_fitsNow (v0 : Option Nat) (h : MH) : Option (Int32) :=
  Option.bind (gfi h v0 [1] 3) fun x1 =>
  Option.bind (gfi h v0 [1] 4) fun x3 =>
  Option.bind (onc h v0 1 (f_B_shallowest v0 x1 x3 h)) fun x5 =>
  Option.bind (onc h v0 1 (f_B_sinks v0 h)) fun x7 =>
  if x5 < x7 then
    some (0 : Int32)
  else
    some (1 : Int32)
set_option maxHeartbeats 4000000 in
set_option maxRecDepth 200000 in
theorem t_B_fitsNow (v0 : Option Nat) (h : MH) (r : (Int32)) (hyp : f_B_fitsNow v0 h = some r) : Mt mi_B_fitsNow 3 [va_rf v0] h (some (.int r)) h := by
  refine Mt.rt (lv := [(0, va_rf v0)]) (by decide +kernel) (by simp [lv_args, mj_rfc, mj_cti, mj_ctl]) (by simp [mj_rfc, mj_cti, mj_ctl]) ?_
  unfold f_B_fitsNow at hyp
  obtain ⟨x1, e2, hyp⟩ := Option.bind_eq_some_iff.mp hyp
  obtain ⟨x3, e4, hyp⟩ := Option.bind_eq_some_iff.mp hyp
  obtain ⟨x5, e6, hyp⟩ := Option.bind_eq_some_iff.mp hyp
  obtain ⟨x7, e8, hyp⟩ := Option.bind_eq_some_iff.mp hyp
  refine rt_st (pc1 := 16) (fun _ _ B => go_aload_n 0 d_B_fitsNow_0 rfl (go_aload_n 0 d_B_fitsNow_1 rfl (go_gfi d_B_fitsNow_2 fd_1_3 w222 e2 (go_aload_n 0 d_B_fitsNow_5 rfl (go_gfi d_B_fitsNow_6 fd_1_4 w228 e4 (go_callV1 (q := q_1) (st := []) [.int x1, .int x3] (t_B_shallowest v0 x1 x3 h _ (onc_spec e6).2) mm_B_shallowest (by decide) d_B_fitsNow_9 (onc_spec e6).1 rfl rfl w622 w623 w624 rfl (Nat.le_of_ble_eq_true rfl) rfl (go_aload_n 0 d_B_fitsNow_12 rfl (go_callV1 (q := q_1) (st := [.int x5]) [] (t_B_sinks v0 h _ (onc_spec e8).2) mm_B_sinks (by decide) d_B_fitsNow_13 (onc_spec e8).1 rfl rfl w575 w576 w577 rfl (Nat.le_of_ble_eq_true rfl) rfl B)))))))) ?_
  by_cases c9 : x5 < x7
  · replace hyp := (if_pos c9).symm.trans hyp
    refine rt_st (pc1 := 24) (fun _ _ B => go_icmp_lt_t 23 d_B_fitsNow_16 rfl c9 (go_iconst (v := (0 : Int32)) d_B_fitsNow_23 (by decide) B)) ?_
    exact rt_eqR Value.int hyp (rt_bool d_B_fitsNow_24 rfl (by decide))
  · replace hyp := (if_neg c9).symm.trans hyp
    refine rt_st (pc1 := 24) (fun _ _ B => go_icmp_lt_f d_B_fitsNow_16 rfl c9 (go_iconst (v := (1 : Int32)) d_B_fitsNow_19 (by decide) (go_goto 24 d_B_fitsNow_20 rfl B))) ?_
    exact rt_eqR Value.int hyp (rt_bool d_B_fitsNow_24 rfl (by decide))
/-! WideTurn.Basin.setOf(I)I -/
def f_B_setOf (v0 : Int32) : Int32 :=
  if (f_C_within v0 (24 : Int32)) = 0 then
    (0 : Int32)
  else
    ((1 : Int32) <<< (v0 &&& 31))
set_option maxHeartbeats 4000000 in
set_option maxRecDepth 200000 in
theorem t_B_setOf (v0 : Int32) (h : MH) : Mt mi_B_setOf 2 [.int v0] h (some (.int (f_B_setOf v0))) h := by
  refine Mt.rt (lv := [(0, .int v0)]) (by decide +kernel) (by simp [lv_args, mj_rfc, mj_cti, mj_ctl]) (by simp [mj_rfc, mj_cti, mj_ctl]) ?_
  unfold f_B_setOf
  refine rt_st (pc1 := 6) (fun _ _ B => go_iload_n 0 d_B_setOf_0 rfl (go_bipush (v := (24 : Int32)) d_B_setOf_1 (by decide) (go_callSN1 (st := []) [.int v0, .int (24 : Int32)] (t_C_within v0 (24 : Int32) h) mm_C_within (by decide) d_B_setOf_3 w520 w314 rfl (Nat.le_of_ble_eq_true rfl) rfl B))) ?_
  by_cases c1 : (f_C_within v0 (24 : Int32)) = 0
  · rw [if_pos c1]
    refine rt_st (pc1 := 16) (fun _ _ B => go_if_eq_t 15 d_B_setOf_6 rfl c1 (go_iconst (v := (0 : Int32)) d_B_setOf_15 (by decide) B)) ?_
    exact rt_int d_B_setOf_16 rfl
  · rw [if_neg c1]
    refine rt_st (pc1 := 16) (fun _ _ B => go_if_eq_f d_B_setOf_6 rfl c1 (go_iconst (v := (1 : Int32)) d_B_setOf_9 (by decide) (go_iload_n 0 d_B_setOf_10 rfl (go_ishl d_B_setOf_11 (go_goto 16 d_B_setOf_12 rfl B))))) ?_
    exact rt_int d_B_setOf_16 rfl
/-! WideTurn.Basin.lies()I -/
def f_B_lies (v0 : Option Nat) (h : MH) : Option (Int32) :=
  Option.bind (gfi h v0 [1] 3) fun x1 =>
  Option.bind (gfi h v0 [1] 3) fun x3 =>
  Option.bind (gfi h v0 [1] 4) fun x5 =>
  Option.bind (f_C_beside x3 x5 h) fun x7 =>
  Option.bind (gfi h v0 [1] 3) fun x9 =>
  Option.bind (gfi h v0 [1] 4) fun x11 =>
  Option.bind (f_C_beside x9 (x11 + (4 : Int32)) h) fun x13 =>
  some (((f_B_setOf x1) ||| (f_B_setOf x7)) ||| (f_B_setOf x13))
set_option maxHeartbeats 4000000 in
set_option maxRecDepth 200000 in
theorem t_B_lies (v0 : Option Nat) (h : MH) (r : (Int32)) (hyp : f_B_lies v0 h = some r) : Mt mi_B_lies 3 [va_rf v0] h (some (.int r)) h := by
  refine Mt.rt (lv := [(0, va_rf v0)]) (by decide +kernel) (by simp [lv_args, mj_rfc, mj_cti, mj_ctl]) (by simp [mj_rfc, mj_cti, mj_ctl]) ?_
  unfold f_B_lies at hyp
  obtain ⟨x1, e2, hyp⟩ := Option.bind_eq_some_iff.mp hyp
  obtain ⟨x3, e4, hyp⟩ := Option.bind_eq_some_iff.mp hyp
  obtain ⟨x5, e6, hyp⟩ := Option.bind_eq_some_iff.mp hyp
  obtain ⟨x7, e8, hyp⟩ := Option.bind_eq_some_iff.mp hyp
  obtain ⟨x9, e10, hyp⟩ := Option.bind_eq_some_iff.mp hyp
  obtain ⟨x11, e12, hyp⟩ := Option.bind_eq_some_iff.mp hyp
  obtain ⟨x13, e14, hyp⟩ := Option.bind_eq_some_iff.mp hyp
  refine rt_st (pc1 := 39) (fun _ _ B => go_aload_n 0 d_B_lies_0 rfl (go_gfi d_B_lies_1 fd_1_3 w222 e2 (go_callS1 (st := []) [.int x1] (t_B_setOf x1 h) mm_B_setOf (by decide) d_B_lies_4 w662 w663 rfl (Nat.le_of_ble_eq_true rfl) rfl (go_aload_n 0 d_B_lies_7 rfl (go_gfi d_B_lies_8 fd_1_3 w222 e4 (go_aload_n 0 d_B_lies_11 rfl (go_gfi d_B_lies_12 fd_1_4 w228 e6 (go_callSN1 (st := [.int (f_B_setOf x1)]) [.int x3, .int x5] (t_C_beside x3 x5 h _ e8) mm_C_beside (by decide) d_B_lies_15 w630 w612 rfl (Nat.le_of_ble_eq_true rfl) rfl (go_callS1 (st := [.int (f_B_setOf x1)]) [.int x7] (t_B_setOf x7 h) mm_B_setOf (by decide) d_B_lies_18 w662 w663 rfl (Nat.le_of_ble_eq_true rfl) rfl (go_ior d_B_lies_21 (go_aload_n 0 d_B_lies_22 rfl (go_gfi d_B_lies_23 fd_1_3 w222 e10 (go_aload_n 0 d_B_lies_26 rfl (go_gfi d_B_lies_27 fd_1_4 w228 e12 (go_iconst (v := (4 : Int32)) d_B_lies_30 (by decide) (go_iadd d_B_lies_31 (go_callSN1 (st := [.int ((f_B_setOf x1) ||| (f_B_setOf x7))]) [.int x9, .int (x11 + (4 : Int32))] (t_C_beside x9 (x11 + (4 : Int32)) h _ e14) mm_C_beside (by decide) d_B_lies_32 w630 w612 rfl (Nat.le_of_ble_eq_true rfl) rfl (go_callS1 (st := [.int ((f_B_setOf x1) ||| (f_B_setOf x7))]) [.int x13] (t_B_setOf x13 h) mm_B_setOf (by decide) d_B_lies_35 w662 w663 rfl (Nat.le_of_ble_eq_true rfl) rfl (go_ior d_B_lies_38 B))))))))))))))))))) ?_
  exact rt_eqR Value.int hyp (rt_int d_B_lies_39 rfl)
/-! WideTurn.Lifter.lift()I -/
def f_Lf_lift (v0 : Option Nat) : Int32 :=
  (1 : Int32)
set_option maxHeartbeats 4000000 in
set_option maxRecDepth 200000 in
theorem t_Lf_lift (v0 : Option Nat) (h : MH) : Mt mi_Lf_lift 1 [va_rf v0] h (some (.int (f_Lf_lift v0))) h := by
  refine Mt.rt (lv := [(0, va_rf v0)]) (by decide +kernel) (by simp [lv_args, mj_rfc, mj_cti, mj_ctl]) (by simp [mj_rfc, mj_cti, mj_ctl]) ?_
  unfold f_Lf_lift
  refine rt_st (pc1 := 1) (fun _ _ B => go_iconst (v := (1 : Int32)) d_Lf_lift_0 (by decide) B) ?_
  exact rt_int d_Lf_lift_1 rfl
/-! WideTurn.Hand.lift()I -/
def f_H_lift (v0 : Option Nat) : Int32 :=
  (0 : Int32)
set_option maxHeartbeats 4000000 in
set_option maxRecDepth 200000 in
theorem t_H_lift (v0 : Option Nat) (h : MH) : Mt mi_H_lift 1 [va_rf v0] h (some (.int (f_H_lift v0))) h := by
  refine Mt.rt (lv := [(0, va_rf v0)]) (by decide +kernel) (by simp [lv_args, mj_rfc, mj_cti, mj_ctl]) (by simp [mj_rfc, mj_cti, mj_ctl]) ?_
  unfold f_H_lift
  refine rt_st (pc1 := 1) (fun _ _ B => go_iconst (v := (0 : Int32)) d_H_lift_0 (by decide) B) ?_
  exact rt_int d_H_lift_1 rfl
/-! WideTurn.Hand.minutesFor(I)I -/
def f_H_minutesFor (v0 : Option Nat) (v1 : Int32) (h : MH) : Option (Int32) :=
  if v1 < 0 then
    some (-1000000 : Int32)
  else
    if (8 : Int32) ≤ v1 then
      some (-1000000 : Int32)
    else
      Option.bind (gfi h v0 [2, 3, 4, 7, 8] 2) fun x3 =>
      if ((x3 >>> (v1 &&& 31)) &&& (1 : Int32)) = (1 : Int32) then
        Option.bind (gfi h v0 [2, 3, 4, 7, 8] 1) fun x6 =>
        some x6
      else
        some (-1000000 : Int32)
set_option maxHeartbeats 4000000 in
set_option maxRecDepth 200000 in
theorem t_H_minutesFor (v0 : Option Nat) (v1 : Int32) (h : MH) (r : (Int32)) (hyp : f_H_minutesFor v0 v1 h = some r) : Mt mi_H_minutesFor 1 [va_rf v0, .int v1] h (some (.int r)) h := by
  refine Mt.rt (lv := [(0, va_rf v0), (1, .int v1)]) (by decide +kernel) (by simp [lv_args, mj_rfc, mj_cti, mj_ctl]) (by simp [mj_rfc, mj_cti, mj_ctl]) ?_
  unfold f_H_minutesFor at hyp
  refine rt_st (pc1 := 1) (fun _ _ B => go_iload_n 1 d_H_minutesFor_0 rfl B) ?_
  by_cases c1 : v1 < 0
  · replace hyp := (if_pos c1).symm.trans hyp
    refine rt_st (pc1 := 31) (fun _ _ B => go_if_lt_t 29 d_H_minutesFor_1 rfl c1 (go_ldc (v := (-1000000 : Int32)) d_H_minutesFor_29 w606 B)) ?_
    exact rt_eqR Value.int hyp (rt_int d_H_minutesFor_31 rfl)
  · replace hyp := (if_neg c1).symm.trans hyp
    refine rt_st (pc1 := 7) (fun _ _ B => go_if_lt_f d_H_minutesFor_1 rfl c1 (go_iload_n 1 d_H_minutesFor_4 rfl (go_bipush (v := (8 : Int32)) d_H_minutesFor_5 (by decide) B))) ?_
    by_cases c2 : (8 : Int32) ≤ v1
    · replace hyp := (if_pos c2).symm.trans hyp
      refine rt_st (pc1 := 31) (fun _ _ B => go_icmp_ge_t 29 d_H_minutesFor_7 rfl c2 (go_ldc (v := (-1000000 : Int32)) d_H_minutesFor_29 w606 B)) ?_
      exact rt_eqR Value.int hyp (rt_int d_H_minutesFor_31 rfl)
    · replace hyp := (if_neg c2).symm.trans hyp
      obtain ⟨x3, e4, hyp⟩ := Option.bind_eq_some_iff.mp hyp
      refine rt_st (pc1 := 19) (fun _ _ B => go_icmp_ge_f d_H_minutesFor_7 rfl c2 (go_aload_n 0 d_H_minutesFor_10 rfl (go_gfi d_H_minutesFor_11 fd_h_2 w468 e4 (go_iload_n 1 d_H_minutesFor_14 rfl (go_ishr d_H_minutesFor_15 (go_iconst (v := (1 : Int32)) d_H_minutesFor_16 (by decide) (go_iand d_H_minutesFor_17 (go_iconst (v := (1 : Int32)) d_H_minutesFor_18 (by decide) B)))))))) ?_
      by_cases c5 : ((x3 >>> (v1 &&& 31)) &&& (1 : Int32)) = (1 : Int32)
      · replace hyp := (if_pos c5).symm.trans hyp
        obtain ⟨x6, e7, hyp⟩ := Option.bind_eq_some_iff.mp hyp
        refine rt_st (pc1 := 31) (fun _ _ B => go_icmp_ne_f d_H_minutesFor_19 rfl c5 (go_aload_n 0 d_H_minutesFor_22 rfl (go_gfi d_H_minutesFor_23 fd_h_1 w467 e7 (go_goto 31 d_H_minutesFor_26 rfl B)))) ?_
        exact rt_eqR Value.int hyp (rt_int d_H_minutesFor_31 rfl)
      · replace hyp := (if_neg c5).symm.trans hyp
        refine rt_st (pc1 := 31) (fun _ _ B => go_icmp_ne_t 29 d_H_minutesFor_19 rfl c5 (go_ldc (v := (-1000000 : Int32)) d_H_minutesFor_29 w606 B)) ?_
        exact rt_eqR Value.int hyp (rt_int d_H_minutesFor_31 rfl)
/-! WideTurn.Roper.minutesFor(I)I -/
def b_Ro_minutesFor_16 (h : MH) : (Int32) → (Option (Int32)) := fun v2 => 
  some (mj_max (1 : Int32) (v2 / (2 : Int32)))
def f_Ro_minutesFor (v0 : Option Nat) (v1 : Int32) (h : MH) : Option (Int32) :=
  Option.bind (f_H_minutesFor v0 v1 h) fun x1 =>
  Option.bind (cls h v0) fun x3 =>
  Option.bind (mj_hand x3) fun _ =>
  if v1 = (4 : Int32) then
    b_Ro_minutesFor_16 h x1
  else
    if v1 = (5 : Int32) then
      b_Ro_minutesFor_16 h x1
    else
      some x1
set_option maxHeartbeats 4000000 in
set_option maxRecDepth 200000 in
theorem p_Ro_minutesFor_16 (h : MH) {h0 : MH} (v2 : Int32) (r : (Int32)) : b_Ro_minutesFor_16 h  v2 = some r → Rt mi_Ro_minutesFor 2 h0 16 [(2, .int v2)] [] h (some (.int r)) h := by
  intro hyp
  unfold b_Ro_minutesFor_16 at hyp
  refine rt_st (pc1 := 27) (fun _ _ B => go_iconst (v := (1 : Int32)) d_Ro_minutesFor_16 (by decide) (go_iload_n 0 d_Ro_minutesFor_17 rfl (go_iconst (v := (2 : Int32)) d_Ro_minutesFor_18 (by decide) (go_idiv d_Ro_minutesFor_19 (by decide) (go_mmax (st := []) (by decide) (Nat.le_of_ble_eq_true rfl) d_Ro_minutesFor_20 w602 (go_goto 27 d_Ro_minutesFor_23 rfl B)))))) ?_
  exact rt_eqR Value.int hyp (rt_int d_Ro_minutesFor_27 rfl)
set_option maxHeartbeats 4000000 in
set_option maxRecDepth 200000 in
theorem t_Ro_minutesFor (v0 : Option Nat) (v1 : Int32) (h : MH) (r : (Int32)) (hyp : f_Ro_minutesFor v0 v1 h = some r) : Mt mi_Ro_minutesFor 2 [va_rf v0, .int v1] h (some (.int r)) h := by
  refine Mt.rt (lv := [(0, va_rf v0), (1, .int v1)]) (by decide +kernel) (by simp [lv_args, mj_rfc, mj_cti, mj_ctl]) (by simp [mj_rfc, mj_cti, mj_ctl]) ?_
  unfold f_Ro_minutesFor at hyp
  obtain ⟨x1, e2, hyp⟩ := Option.bind_eq_some_iff.mp hyp
  obtain ⟨x3, e4, hyp⟩ := Option.bind_eq_some_iff.mp hyp
  obtain ⟨_, e5, hyp⟩ := Option.bind_eq_some_iff.mp hyp
  refine rt_st (pc1 := 8) (fun _ _ B => go_aload_n 0 d_Ro_minutesFor_0 rfl (go_iload_n 1 d_Ro_minutesFor_1 rfl (go_callSUu1 (st := []) [.int v1] (t_H_minutesFor v0 v1 h _ e2) mm_H_minutesFor (by decide) d_Ro_minutesFor_2 e4 (mj_hand_spec e5) w599 w600 w495 w475 w592 (by decide) rfl (Nat.le_of_ble_eq_true rfl) rfl (go_istore_n (lv1 := [(2, .int x1), (0, va_rf v0), (1, .int v1)]) d_Ro_minutesFor_5 (by decide) rfl (go_iload_n 2 d_Ro_minutesFor_6 rfl (go_iconst (v := (4 : Int32)) d_Ro_minutesFor_7 (by decide) B)))))) ?_
  by_cases c6 : v1 = (4 : Int32)
  · replace hyp := (if_pos c6).symm.trans hyp
    refine rt_st (pc1 := 16) (fun _ _ B => go_icmp_eq_t 16 d_Ro_minutesFor_8 rfl c6 B) ?_
    refine rt_sub [0] (lv1 := [(2, .int x1)]) rfl ?_
    exact p_Ro_minutesFor_16 h _ r hyp
  · replace hyp := (if_neg c6).symm.trans hyp
    refine rt_st (pc1 := 13) (fun _ _ B => go_icmp_eq_f d_Ro_minutesFor_8 rfl c6 (go_iload_n 2 d_Ro_minutesFor_11 rfl (go_iconst (v := (5 : Int32)) d_Ro_minutesFor_12 (by decide) B))) ?_
    by_cases c7 : v1 = (5 : Int32)
    · replace hyp := (if_pos c7).symm.trans hyp
      refine rt_st (pc1 := 16) (fun _ _ B => go_icmp_ne_f d_Ro_minutesFor_13 rfl c7 B) ?_
      refine rt_sub [0] (lv1 := [(2, .int x1)]) rfl ?_
      exact p_Ro_minutesFor_16 h _ r hyp
    · replace hyp := (if_neg c7).symm.trans hyp
      refine rt_st (pc1 := 27) (fun _ _ B => go_icmp_ne_t 26 d_Ro_minutesFor_13 rfl c7 (go_iload_n 0 d_Ro_minutesFor_26 rfl B)) ?_
      exact rt_eqR Value.int hyp (rt_int d_Ro_minutesFor_27 rfl)
/-! WideTurn.turnBehind(II)I -/
def b_C_turnBehind_21 : (Int32) → (Int32) → (Int32) := fun s0 s1 => 
  ((s0 + s1) &&& (7 : Int32))
def f_C_turnBehind (v0 : Int32) (v1 : Int32) : Int32 :=
  if v1 < (6 : Int32) then
    if (mj_irem v1 (2 : Int32)) = 0 then
      b_C_turnBehind_21 v0 (1 : Int32)
    else
      b_C_turnBehind_21 v0 (7 : Int32)
  else
    v0
set_option maxHeartbeats 4000000 in
set_option maxRecDepth 200000 in
theorem p_C_turnBehind_21 (h : MH) {h0 : MH} (s0 : Int32) (s1 : Int32) : Rt mi_C_turnBehind 1 h0 21 [] [.int s1, .int s0] h (some (.int (b_C_turnBehind_21  s0 s1))) h := by
  unfold b_C_turnBehind_21
  refine rt_st (pc1 := 25) (fun _ _ B => go_iadd d_C_turnBehind_21 (go_bipush (v := (7 : Int32)) d_C_turnBehind_22 (by decide) (go_iand d_C_turnBehind_24 B))) ?_
  exact rt_int d_C_turnBehind_25 rfl
set_option maxHeartbeats 4000000 in
set_option maxRecDepth 200000 in
theorem t_C_turnBehind (v0 : Int32) (v1 : Int32) (h : MH) : Mt mi_C_turnBehind 1 [.int v0, .int v1] h (some (.int (f_C_turnBehind v0 v1))) h := by
  refine Mt.rt (lv := [(0, .int v0), (1, .int v1)]) (by decide +kernel) (by simp [lv_args, mj_rfc, mj_cti, mj_ctl]) (by simp [mj_rfc, mj_cti, mj_ctl]) ?_
  unfold f_C_turnBehind
  refine rt_st (pc1 := 3) (fun _ _ B => go_iload_n 1 d_C_turnBehind_0 rfl (go_bipush (v := (6 : Int32)) d_C_turnBehind_1 (by decide) B)) ?_
  by_cases c1 : v1 < (6 : Int32)
  · rw [if_pos c1]
    refine rt_st (pc1 := 12) (fun _ _ B => go_icmp_lt_t 8 d_C_turnBehind_3 rfl c1 (go_iload_n 0 d_C_turnBehind_8 rfl (go_iload_n 1 d_C_turnBehind_9 rfl (go_iconst (v := (2 : Int32)) d_C_turnBehind_10 (by decide) (go_irem d_C_turnBehind_11 (by decide) B))))) ?_
    by_cases c2 : (mj_irem v1 (2 : Int32)) = 0
    · rw [if_pos c2]
      refine rt_st (pc1 := 21) (fun _ _ B => go_if_ne_f d_C_turnBehind_12 rfl c2 (go_iconst (v := (1 : Int32)) d_C_turnBehind_15 (by decide) (go_goto 21 d_C_turnBehind_16 rfl B))) ?_
      refine rt_sub [] (lv1 := []) rfl ?_
      exact p_C_turnBehind_21 h v0 (1 : Int32)
    · rw [if_neg c2]
      refine rt_st (pc1 := 21) (fun _ _ B => go_if_ne_t 19 d_C_turnBehind_12 rfl c2 (go_bipush (v := (7 : Int32)) d_C_turnBehind_19 (by decide) B)) ?_
      refine rt_sub [] (lv1 := []) rfl ?_
      exact p_C_turnBehind_21 h v0 (7 : Int32)
  · rw [if_neg c1]
    refine rt_st (pc1 := 7) (fun _ _ B => go_icmp_lt_f d_C_turnBehind_3 rfl c1 (go_iload_n 0 d_C_turnBehind_6 rfl B)) ?_
    exact rt_int d_C_turnBehind_7 rfl
/-! WideTurn.middleBehind(III)I -/
def b_C_middleBehind_66 (h : MH) : (Int32) → (Int32) → (Int32) → (Option (Int32)) := fun v0 v1 v2 => 
  Option.bind (f_C_beside v0 v1 h) fun x1 =>
  Option.bind (f_C_beside x1 ((f_C_turnBehind v1 v2) + (4 : Int32)) h) fun x3 =>
  some x3
def b_C_middleBehind_50 (h : MH) : (Int32) → (Int32) → (Int32) → (Option (Int32)) := fun v0 v1 v2 => 
  Option.bind (f_C_beside v0 (v1 + (4 : Int32)) h) fun x1 =>
  Option.bind (f_C_beside x1 (f_C_turnBehind v1 v2) h) fun x3 =>
  some x3
def f_C_middleBehind (v0 : Int32) (v1 : Int32) (v2 : Int32) (h : MH) : Option (Int32) :=
  if v2 = (0 : Int32) then
    some v0
  else
  if v2 = (1 : Int32) then
    some v0
  else
  if v2 = (2 : Int32) then
    b_C_middleBehind_50 h v0 v1 v2
  else
  if v2 = (3 : Int32) then
    b_C_middleBehind_50 h v0 v1 v2
  else
  if v2 = (4 : Int32) then
    b_C_middleBehind_66 h v0 v1 v2
  else
  if v2 = (5 : Int32) then
    b_C_middleBehind_66 h v0 v1 v2
  else
  if v2 = (6 : Int32) then
    Option.bind (f_C_beside v0 v1 h) fun x8 =>
    some x8
  else
  if v2 = (7 : Int32) then
    Option.bind (f_C_beside v0 (v1 + (4 : Int32)) h) fun x11 =>
    some x11
  else
  some (-1 : Int32)
set_option maxHeartbeats 4000000 in
set_option maxRecDepth 200000 in
theorem p_C_middleBehind_66 (h : MH) {h0 : MH} (v0 : Int32) (v1 : Int32) (v2 : Int32) (r : (Int32)) : b_C_middleBehind_66 h  v0 v1 v2 = some r → Rt mi_C_middleBehind 2 h0 66 [(0, .int v0), (1, .int v1), (2, .int v2)] [] h (some (.int r)) h := by
  intro hyp
  unfold b_C_middleBehind_66 at hyp
  obtain ⟨x1, e2, hyp⟩ := Option.bind_eq_some_iff.mp hyp
  obtain ⟨x3, e4, hyp⟩ := Option.bind_eq_some_iff.mp hyp
  refine rt_st (pc1 := 81) (fun _ _ B => go_iload_n 0 d_C_middleBehind_66 rfl (go_iload_n 1 d_C_middleBehind_67 rfl (go_callS1 (st := []) [.int v0, .int v1] (t_C_beside v0 v1 h _ e2) mm_C_beside (by decide) d_C_middleBehind_68 w611 w612 rfl (Nat.le_of_ble_eq_true rfl) rfl (go_iload_n 1 d_C_middleBehind_71 rfl (go_iload_n 2 d_C_middleBehind_72 rfl (go_callS1 (st := [.int x1]) [.int v1, .int v2] (t_C_turnBehind v1 v2 h) mm_C_turnBehind (by decide) d_C_middleBehind_73 w618 w619 rfl (Nat.le_of_ble_eq_true rfl) rfl (go_iconst (v := (4 : Int32)) d_C_middleBehind_76 (by decide) (go_iadd d_C_middleBehind_77 (go_callS1 (st := []) [.int x1, .int ((f_C_turnBehind v1 v2) + (4 : Int32))] (t_C_beside x1 ((f_C_turnBehind v1 v2) + (4 : Int32)) h _ e4) mm_C_beside (by decide) d_C_middleBehind_78 w611 w612 rfl (Nat.le_of_ble_eq_true rfl) rfl B))))))))) ?_
  exact rt_eqR Value.int hyp (rt_int d_C_middleBehind_81 rfl)
set_option maxHeartbeats 4000000 in
set_option maxRecDepth 200000 in
theorem p_C_middleBehind_50 (h : MH) {h0 : MH} (v0 : Int32) (v1 : Int32) (v2 : Int32) (r : (Int32)) : b_C_middleBehind_50 h  v0 v1 v2 = some r → Rt mi_C_middleBehind 2 h0 50 [(0, .int v0), (1, .int v1), (2, .int v2)] [] h (some (.int r)) h := by
  intro hyp
  unfold b_C_middleBehind_50 at hyp
  obtain ⟨x1, e2, hyp⟩ := Option.bind_eq_some_iff.mp hyp
  obtain ⟨x3, e4, hyp⟩ := Option.bind_eq_some_iff.mp hyp
  refine rt_st (pc1 := 65) (fun _ _ B => go_iload_n 0 d_C_middleBehind_50 rfl (go_iload_n 1 d_C_middleBehind_51 rfl (go_iconst (v := (4 : Int32)) d_C_middleBehind_52 (by decide) (go_iadd d_C_middleBehind_53 (go_callS1 (st := []) [.int v0, .int (v1 + (4 : Int32))] (t_C_beside v0 (v1 + (4 : Int32)) h _ e2) mm_C_beside (by decide) d_C_middleBehind_54 w611 w612 rfl (Nat.le_of_ble_eq_true rfl) rfl (go_iload_n 1 d_C_middleBehind_57 rfl (go_iload_n 2 d_C_middleBehind_58 rfl (go_callS1 (st := [.int x1]) [.int v1, .int v2] (t_C_turnBehind v1 v2 h) mm_C_turnBehind (by decide) d_C_middleBehind_59 w618 w619 rfl (Nat.le_of_ble_eq_true rfl) rfl (go_callS1 (st := []) [.int x1, .int (f_C_turnBehind v1 v2)] (t_C_beside x1 (f_C_turnBehind v1 v2) h _ e4) mm_C_beside (by decide) d_C_middleBehind_62 w611 w612 rfl (Nat.le_of_ble_eq_true rfl) rfl B))))))))) ?_
  exact rt_eqR Value.int hyp (rt_int d_C_middleBehind_65 rfl)
set_option maxHeartbeats 4000000 in
set_option maxRecDepth 200000 in
theorem t_C_middleBehind (v0 : Int32) (v1 : Int32) (v2 : Int32) (h : MH) (r : (Int32)) (hyp : f_C_middleBehind v0 v1 v2 h = some r) : Mt mi_C_middleBehind 2 [.int v0, .int v1, .int v2] h (some (.int r)) h := by
  refine Mt.rt (lv := [(0, .int v0), (1, .int v1), (2, .int v2)]) (by decide +kernel) (by simp [lv_args, mj_rfc, mj_cti, mj_ctl]) (by simp [mj_rfc, mj_cti, mj_ctl]) ?_
  unfold f_C_middleBehind at hyp
  refine rt_st (pc1 := 1) (fun _ _ B => go_iload_n 2 d_C_middleBehind_0 rfl B) ?_
  by_cases c1 : v2 = (0 : Int32)
  · replace hyp := (if_pos c1).symm.trans hyp
    refine rt_st (pc1 := 49) (fun _ _ B => go_tsw 48 d_C_middleBehind_1 (by decide) (by rw [c1]; decide) (go_iload_n 0 d_C_middleBehind_48 rfl B)) ?_
    exact rt_eqR Value.int hyp (rt_int d_C_middleBehind_49 rfl)
  replace hyp := (if_neg c1).symm.trans hyp
  by_cases c2 : v2 = (1 : Int32)
  · replace hyp := (if_pos c2).symm.trans hyp
    refine rt_st (pc1 := 49) (fun _ _ B => go_tsw 48 d_C_middleBehind_1 (by decide) (by rw [c2]; decide) (go_iload_n 0 d_C_middleBehind_48 rfl B)) ?_
    exact rt_eqR Value.int hyp (rt_int d_C_middleBehind_49 rfl)
  replace hyp := (if_neg c2).symm.trans hyp
  by_cases c3 : v2 = (2 : Int32)
  · replace hyp := (if_pos c3).symm.trans hyp
    refine rt_st (pc1 := 50) (fun _ _ B => go_tsw 50 d_C_middleBehind_1 (by decide) (by rw [c3]; decide) B) ?_
    exact p_C_middleBehind_50 h _ _ _ r hyp
  replace hyp := (if_neg c3).symm.trans hyp
  by_cases c4 : v2 = (3 : Int32)
  · replace hyp := (if_pos c4).symm.trans hyp
    refine rt_st (pc1 := 50) (fun _ _ B => go_tsw 50 d_C_middleBehind_1 (by decide) (by rw [c4]; decide) B) ?_
    exact p_C_middleBehind_50 h _ _ _ r hyp
  replace hyp := (if_neg c4).symm.trans hyp
  by_cases c5 : v2 = (4 : Int32)
  · replace hyp := (if_pos c5).symm.trans hyp
    refine rt_st (pc1 := 66) (fun _ _ B => go_tsw 66 d_C_middleBehind_1 (by decide) (by rw [c5]; decide) B) ?_
    exact p_C_middleBehind_66 h _ _ _ r hyp
  replace hyp := (if_neg c5).symm.trans hyp
  by_cases c6 : v2 = (5 : Int32)
  · replace hyp := (if_pos c6).symm.trans hyp
    refine rt_st (pc1 := 66) (fun _ _ B => go_tsw 66 d_C_middleBehind_1 (by decide) (by rw [c6]; decide) B) ?_
    exact p_C_middleBehind_66 h _ _ _ r hyp
  replace hyp := (if_neg c6).symm.trans hyp
  by_cases c7 : v2 = (6 : Int32)
  · replace hyp := (if_pos c7).symm.trans hyp
    obtain ⟨x8, e9, hyp⟩ := Option.bind_eq_some_iff.mp hyp
    refine rt_st (pc1 := 87) (fun _ _ B => go_tsw 82 d_C_middleBehind_1 (by decide) (by rw [c7]; decide) (go_iload_n 0 d_C_middleBehind_82 rfl (go_iload_n 1 d_C_middleBehind_83 rfl (go_callS1 (st := []) [.int v0, .int v1] (t_C_beside v0 v1 h _ e9) mm_C_beside (by decide) d_C_middleBehind_84 w611 w612 rfl (Nat.le_of_ble_eq_true rfl) rfl B)))) ?_
    exact rt_eqR Value.int hyp (rt_int d_C_middleBehind_87 rfl)
  replace hyp := (if_neg c7).symm.trans hyp
  by_cases c10 : v2 = (7 : Int32)
  · replace hyp := (if_pos c10).symm.trans hyp
    obtain ⟨x11, e12, hyp⟩ := Option.bind_eq_some_iff.mp hyp
    refine rt_st (pc1 := 95) (fun _ _ B => go_tsw 88 d_C_middleBehind_1 (by decide) (by rw [c10]; decide) (go_iload_n 0 d_C_middleBehind_88 rfl (go_iload_n 1 d_C_middleBehind_89 rfl (go_iconst (v := (4 : Int32)) d_C_middleBehind_90 (by decide) (go_iadd d_C_middleBehind_91 (go_callS1 (st := []) [.int v0, .int (v1 + (4 : Int32))] (t_C_beside v0 (v1 + (4 : Int32)) h _ e12) mm_C_beside (by decide) d_C_middleBehind_92 w611 w612 rfl (Nat.le_of_ble_eq_true rfl) rfl B)))))) ?_
    exact rt_eqR Value.int hyp (rt_int d_C_middleBehind_95 rfl)
  replace hyp := (if_neg c10).symm.trans hyp
  refine rt_st (pc1 := 97) (fun _ _ B => go_tsw 96 d_C_middleBehind_1 (by decide) (mj_swd [0, 1, 2, 3, 4, 5, 6, 7] (List.forall_mem_cons.mpr ⟨mj_swn c1 (by decide), List.forall_mem_cons.mpr ⟨mj_swn c2 (by decide), List.forall_mem_cons.mpr ⟨mj_swn c3 (by decide), List.forall_mem_cons.mpr ⟨mj_swn c4 (by decide), List.forall_mem_cons.mpr ⟨mj_swn c5 (by decide), List.forall_mem_cons.mpr ⟨mj_swn c6 (by decide), List.forall_mem_cons.mpr ⟨mj_swn c7 (by decide), List.forall_mem_cons.mpr ⟨mj_swn c10 (by decide), List.forall_mem_nil _⟩⟩⟩⟩⟩⟩⟩⟩) (by decide) rfl) (go_iconst (v := (-1 : Int32)) d_C_middleBehind_96 (by decide) B)) ?_
  exact rt_eqR Value.int hyp (rt_int d_C_middleBehind_97 rfl)
/-! WideTurn.Basin.canMake(LWideTurn.Hand;I)Z -/
def v_H_lift (o : Option Nat) (h : MH) : Option (Int32) :=
  if cls h o = some 2 then some (f_Lf_lift o) else
  if cls h o = some 3 then some (f_H_lift o) else
  if cls h o = some 4 then some (f_H_lift o) else
  if cls h o = some 7 then some (f_H_lift o) else
  if cls h o = some 8 then some (f_H_lift o) else
  none
def v_H_minutesFor (o : Option Nat) (a0 : Int32) (h : MH) : Option (Int32) :=
  if cls h o = some 2 then f_H_minutesFor o a0 h else
  if cls h o = some 3 then f_H_minutesFor o a0 h else
  if cls h o = some 4 then f_Ro_minutesFor o a0 h else
  if cls h o = some 7 then f_H_minutesFor o a0 h else
  if cls h o = some 8 then f_H_minutesFor o a0 h else
  none
def f_B_canMake (v0 : Option Nat) (v1 : Option Nat) (v2 : Int32) (h : MH) : Option (Int32) :=
  Option.bind (onc h v0 1 (f_B_sinks v0 h)) fun x1 =>
  Option.bind (v_H_lift v1 h) fun x3 =>
  Option.bind (v_H_minutesFor v1 v2 h) fun x5 =>
  if x5 = (-1000000 : Int32) then
    some (0 : Int32)
  else
    Option.bind (gfi h v0 [1] 3) fun x8 =>
    Option.bind (gfi h v0 [1] 4) fun x10 =>
    Option.bind (f_C_middleBehind x8 x10 v2 h) fun x12 =>
    Option.bind (gfi h v0 [1] 4) fun x14 =>
    Option.bind (onc h v0 1 (f_B_shallowest v0 x12 (f_C_turnBehind x14 v2) h)) fun x16 =>
    if x16 < (mj_max (0 : Int32) (x1 - x3)) then
      some (0 : Int32)
    else
      some (1 : Int32)
set_option maxHeartbeats 4000000 in
set_option maxRecDepth 200000 in
theorem vs_B_canMake_6 {h0 : MH} (h : MH) {o : Option Nat} {pc2 : Nat} {lv lv2 : List (Nat × Value)} {st st2 : List Value} {h2 : MH} {x : Int32} (e : v_H_lift o h = some x) (hst : st.length ≤ 4) (B : Go mi_B_canMake 3 h0 (6 + 3) lv (.int x :: st) h pc2 lv2 st2 h2) : Go mi_B_canMake 3 h0 6 lv (va_rf o :: st) h pc2 lv2 st2 h2 := by
  unfold v_H_lift at e
  by_cases c2 : cls h o = some 2
  · replace e := (if_pos c2).symm.trans e
    cases e
    exact go_callU1 (q := q_2) [] (t_Lf_lift o h) mm_Lf_lift (by decide) d_B_canMake_6 c2 rfl w579 w581 (Or.inl ⟨_, _, _, w580, w589⟩) (by decide +kernel) w582 w583 rfl hst rfl B
  replace e := (if_neg c2).symm.trans e
  by_cases c3 : cls h o = some 3
  · replace e := (if_pos c3).symm.trans e
    cases e
    exact go_callU1 (q := q_3) [] (t_H_lift o h) mm_H_lift (by decide) d_B_canMake_6 c3 rfl w579 w581 (Or.inl ⟨_, _, _, w580, w589⟩) (by decide +kernel) w585 w580 rfl hst rfl B
  replace e := (if_neg c3).symm.trans e
  by_cases c4 : cls h o = some 4
  · replace e := (if_pos c4).symm.trans e
    cases e
    exact go_callU1 (q := q_4) [] (t_H_lift o h) mm_H_lift (by decide) d_B_canMake_6 c4 rfl w579 w581 (Or.inl ⟨_, _, _, w580, w589⟩) (by decide +kernel) w586 w580 rfl hst rfl B
  replace e := (if_neg c4).symm.trans e
  by_cases c7 : cls h o = some 7
  · replace e := (if_pos c7).symm.trans e
    cases e
    exact go_callU1 (q := q_7) [] (t_H_lift o h) mm_H_lift (by decide) d_B_canMake_6 c7 rfl w579 w581 (Or.inl ⟨_, _, _, w580, w589⟩) (by decide +kernel) w587 w580 rfl hst rfl B
  replace e := (if_neg c7).symm.trans e
  by_cases c8 : cls h o = some 8
  · replace e := (if_pos c8).symm.trans e
    cases e
    exact go_callU1 (q := q_8) [] (t_H_lift o h) mm_H_lift (by decide) d_B_canMake_6 c8 rfl w579 w581 (Or.inl ⟨_, _, _, w580, w589⟩) (by decide +kernel) w588 w580 rfl hst rfl B
  replace e := (if_neg c8).symm.trans e
  cases e
set_option maxHeartbeats 4000000 in
set_option maxRecDepth 200000 in
theorem vs_B_canMake_16 {h0 : MH} (h : MH) {o : Option Nat} {a0 : Int32} {pc2 : Nat} {lv lv2 : List (Nat × Value)} {st st2 : List Value} {h2 : MH} {x : Int32} (e : v_H_minutesFor o a0 h = some x) (hst : st.length ≤ 4) (B : Go mi_B_canMake 3 h0 (16 + 3) lv (.int x :: st) h pc2 lv2 st2 h2) : Go mi_B_canMake 3 h0 16 lv (.int a0 :: va_rf o :: st) h pc2 lv2 st2 h2 := by
  unfold v_H_minutesFor at e
  by_cases c2 : cls h o = some 2
  · replace e := (if_pos c2).symm.trans e
    exact go_callU1 (q := q_2) [.int a0] (t_H_minutesFor o a0 h _ e) mm_H_minutesFor (by decide) d_B_canMake_16 c2 rfl w591 w593 (Or.inr w601) (by decide +kernel) w594 w592 rfl hst rfl B
  replace e := (if_neg c2).symm.trans e
  by_cases c3 : cls h o = some 3
  · replace e := (if_pos c3).symm.trans e
    exact go_callU1 (q := q_3) [.int a0] (t_H_minutesFor o a0 h _ e) mm_H_minutesFor (by decide) d_B_canMake_16 c3 rfl w591 w593 (Or.inr w601) (by decide +kernel) w595 w592 rfl hst rfl B
  replace e := (if_neg c3).symm.trans e
  by_cases c4 : cls h o = some 4
  · replace e := (if_pos c4).symm.trans e
    exact go_callU1 (q := q_4) [.int a0] (t_Ro_minutesFor o a0 h _ e) mm_Ro_minutesFor (by decide) d_B_canMake_16 c4 rfl w591 w593 (Or.inr w601) (by decide +kernel) w596 w597 rfl hst rfl B
  replace e := (if_neg c4).symm.trans e
  by_cases c7 : cls h o = some 7
  · replace e := (if_pos c7).symm.trans e
    exact go_callU1 (q := q_7) [.int a0] (t_H_minutesFor o a0 h _ e) mm_H_minutesFor (by decide) d_B_canMake_16 c7 rfl w591 w593 (Or.inr w601) (by decide +kernel) w603 w592 rfl hst rfl B
  replace e := (if_neg c7).symm.trans e
  by_cases c8 : cls h o = some 8
  · replace e := (if_pos c8).symm.trans e
    exact go_callU1 (q := q_8) [.int a0] (t_H_minutesFor o a0 h _ e) mm_H_minutesFor (by decide) d_B_canMake_16 c8 rfl w591 w593 (Or.inr w601) (by decide +kernel) w604 w592 rfl hst rfl B
  replace e := (if_neg c8).symm.trans e
  cases e
set_option maxHeartbeats 4000000 in
set_option maxRecDepth 200000 in
theorem t_B_canMake (v0 : Option Nat) (v1 : Option Nat) (v2 : Int32) (h : MH) (r : (Int32)) (hyp : f_B_canMake v0 v1 v2 h = some r) : Mt mi_B_canMake 3 [va_rf v0, va_rf v1, .int v2] h (some (.int r)) h := by
  refine Mt.rt (lv := [(0, va_rf v0), (1, va_rf v1), (2, .int v2)]) (by decide +kernel) (by simp [lv_args, mj_rfc, mj_cti, mj_ctl]) (by simp [mj_rfc, mj_cti, mj_ctl]) ?_
  unfold f_B_canMake at hyp
  obtain ⟨x1, e2, hyp⟩ := Option.bind_eq_some_iff.mp hyp
  obtain ⟨x3, e4, hyp⟩ := Option.bind_eq_some_iff.mp hyp
  obtain ⟨x5, e6, hyp⟩ := Option.bind_eq_some_iff.mp hyp
  refine rt_st (pc1 := 21) (fun _ _ B => go_iconst (v := (0 : Int32)) d_B_canMake_0 (by decide) (go_aload_n 0 d_B_canMake_1 rfl (go_callV1 (q := q_1) (st := [.int (0 : Int32)]) [] (t_B_sinks v0 h _ (onc_spec e2).2) mm_B_sinks (by decide) d_B_canMake_2 (onc_spec e2).1 rfl rfl w575 w576 w577 rfl (Nat.le_of_ble_eq_true rfl) rfl (go_aload_n 1 d_B_canMake_5 rfl (vs_B_canMake_6 h (st := [.int x1, .int (0 : Int32)]) e4 (Nat.le_of_ble_eq_true rfl) (go_isub d_B_canMake_9 (go_mmax (st := []) (by decide) (Nat.le_of_ble_eq_true rfl) d_B_canMake_10 w590 (go_istore_n (lv1 := [(3, .int (mj_max (0 : Int32) (x1 - x3))), (0, va_rf v0), (1, va_rf v1), (2, .int v2)]) d_B_canMake_13 (by decide) rfl (go_aload_n 2 d_B_canMake_14 rfl (go_iload_n 3 d_B_canMake_15 rfl (vs_B_canMake_16 h (st := []) e6 (Nat.le_of_ble_eq_true rfl) (go_ldc (v := (-1000000 : Int32)) d_B_canMake_19 w607 B)))))))))))) ?_
  by_cases c7 : x5 = (-1000000 : Int32)
  · replace hyp := (if_pos c7).symm.trans hyp
    refine rt_st (pc1 := 57) (fun _ _ B => go_icmp_eq_t 56 d_B_canMake_21 rfl c7 (go_iconst (v := (0 : Int32)) d_B_canMake_56 (by decide) B)) ?_
    exact rt_eqR Value.int hyp (rt_bool d_B_canMake_57 rfl (by decide))
  · replace hyp := (if_neg c7).symm.trans hyp
    obtain ⟨x8, e9, hyp⟩ := Option.bind_eq_some_iff.mp hyp
    obtain ⟨x10, e11, hyp⟩ := Option.bind_eq_some_iff.mp hyp
    obtain ⟨x12, e13, hyp⟩ := Option.bind_eq_some_iff.mp hyp
    obtain ⟨x14, e15, hyp⟩ := Option.bind_eq_some_iff.mp hyp
    obtain ⟨x16, e17, hyp⟩ := Option.bind_eq_some_iff.mp hyp
    refine rt_st (pc1 := 49) (fun _ _ B => go_icmp_eq_f d_B_canMake_21 rfl c7 (go_aload_n 1 d_B_canMake_24 rfl (go_aload_n 1 d_B_canMake_25 rfl (go_gfi d_B_canMake_26 fd_1_3 w222 e9 (go_aload_n 1 d_B_canMake_29 rfl (go_gfi d_B_canMake_30 fd_1_4 w228 e11 (go_iload_n 3 d_B_canMake_33 rfl (go_callSN1 (st := [va_rf v0]) [.int x8, .int x10, .int v2] (t_C_middleBehind x8 x10 v2 h _ e13) mm_C_middleBehind (by decide) d_B_canMake_34 w608 w609 rfl (Nat.le_of_ble_eq_true rfl) rfl (go_aload_n 1 d_B_canMake_37 rfl (go_gfi d_B_canMake_38 fd_1_4 w228 e15 (go_iload_n 3 d_B_canMake_41 rfl (go_callSN1 (st := [.int x12, va_rf v0]) [.int x14, .int v2] (t_C_turnBehind x14 v2 h) mm_C_turnBehind (by decide) d_B_canMake_42 w621 w619 rfl (Nat.le_of_ble_eq_true rfl) rfl (go_callV1 (q := q_1) (st := []) [.int x12, .int (f_C_turnBehind x14 v2)] (t_B_shallowest v0 x12 (f_C_turnBehind x14 v2) h _ (onc_spec e17).2) mm_B_shallowest (by decide) d_B_canMake_45 (onc_spec e17).1 rfl rfl w622 w623 w624 rfl (Nat.le_of_ble_eq_true rfl) rfl (go_iload_n 0 d_B_canMake_48 rfl B)))))))))))))) ?_
    by_cases c18 : x16 < (mj_max (0 : Int32) (x1 - x3))
    · replace hyp := (if_pos c18).symm.trans hyp
      refine rt_st (pc1 := 57) (fun _ _ B => go_icmp_lt_t 56 d_B_canMake_49 rfl c18 (go_iconst (v := (0 : Int32)) d_B_canMake_56 (by decide) B)) ?_
      exact rt_eqR Value.int hyp (rt_bool d_B_canMake_57 rfl (by decide))
    · replace hyp := (if_neg c18).symm.trans hyp
      refine rt_st (pc1 := 57) (fun _ _ B => go_icmp_lt_f d_B_canMake_49 rfl c18 (go_iconst (v := (1 : Int32)) d_B_canMake_52 (by decide) (go_goto 57 d_B_canMake_53 rfl B))) ?_
      exact rt_eqR Value.int hyp (rt_bool d_B_canMake_57 rfl (by decide))
