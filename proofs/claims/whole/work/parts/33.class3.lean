/-! WideTurn.Search.add(III)V -/
def b_S_add_82 : (Option Nat) → (Int32) → (Int32) → (MH) → (Option MH) := fun v0 v1 v4 h => 
  Option.bind (gfr h v0 [6] 5) fun x1 =>
  Option.bind (ast h x1 0 v4 v1) fun h3 =>
  Option.bind (gfi h3 v0 [6] 11) fun x5 =>
  Option.bind (pfv h3 v0 [6] 11 (.int (x5 + (1 : Int32)))) fun h7 =>
  some h7
def f_S_add (v0 : Option Nat) (v1 : Int32) (v2 : Int32) (v3 : Int32) (h : MH) : Option MH :=
  if v1 < 0 then
    some h
  else
    if (576 : Int32) ≤ v1 then
      some h
    else
      if 0 ≤ (mj_irem v2 (21 : Int32)) then
        Option.bind (gfr h v0 [6] 5) fun x4 =>
        Option.bind (ald h x4 0 (mj_irem v2 (21 : Int32))) fun x6 =>
        Option.bind (gfr h v0 [6] 1) fun x8 =>
        Option.bind (ast h x8 0 v1 v2) fun h10 =>
        Option.bind (gfr h10 v0 [6] 2) fun x12 =>
        Option.bind (ast h10 x12 0 v1 v3) fun h14 =>
        Option.bind (gfr h14 v0 [6] 3) fun x16 =>
        Option.bind (ast h14 x16 0 v1 x6) fun h18 =>
        Option.bind (gfr h18 v0 [6] 4) fun x20 =>
        Option.bind (ast h18 x20 0 v1 (-1 : Int32)) fun h22 =>
        if x6 < 0 then
          b_S_add_82 v0 v1 (mj_irem v2 (21 : Int32)) h22
        else
          if (576 : Int32) ≤ x6 then
            b_S_add_82 v0 v1 (mj_irem v2 (21 : Int32)) h22
          else
            Option.bind (gfr h22 v0 [6] 4) fun x26 =>
            Option.bind (ast h22 x26 0 x6 v1) fun h28 =>
            b_S_add_82 v0 v1 (mj_irem v2 (21 : Int32)) h28
      else
        some h
set_option maxHeartbeats 4000000 in
set_option maxRecDepth 200000 in
theorem p_S_add_82 {h0 : MH} (v0 : Option Nat) (v1 : Int32) (v4 : Int32) (h : MH) (r : MH) : b_S_add_82  v0 v1 v4 h = some r → Rt mi_S_add 1 h0 82 [(0, va_rf v0), (1, .int v1), (4, .int v4)] [] h none r := by
  intro hyp
  unfold b_S_add_82 at hyp
  obtain ⟨x1, e2, hyp⟩ := Option.bind_eq_some_iff.mp hyp
  obtain ⟨h3, e4, hyp⟩ := Option.bind_eq_some_iff.mp hyp
  obtain ⟨x5, e6, hyp⟩ := Option.bind_eq_some_iff.mp hyp
  obtain ⟨h7, e8, hyp⟩ := Option.bind_eq_some_iff.mp hyp
  refine rt_st (pc1 := 100) (fun _ _ B => go_aload_n 0 d_S_add_82 rfl (go_gfr d_S_add_83 fd_6_5 w165 e2 (go_iload 2 d_S_add_86 rfl (go_iload_n 1 d_S_add_88 rfl (go_iast d_S_add_89 e4 (go_aload_n 0 d_S_add_90 rfl (go_dup d_S_add_91 (mj_rfc _) (go_gfi d_S_add_92 fd_6_11 w171 e6 (go_iconst (v := (1 : Int32)) d_S_add_95 (by decide) (go_iadd d_S_add_96 (go_pfi d_S_add_97 fd_6_11 w171 (fun q => by cases q) e8 B))))))))))) ?_
  exact rt_eq0 hyp (rt_void d_S_add_100 rfl)
set_option maxHeartbeats 4000000 in
set_option maxRecDepth 200000 in
theorem t_S_add (v0 : Option Nat) (v1 : Int32) (v2 : Int32) (v3 : Int32) (h : MH) (r : MH) (hyp : f_S_add v0 v1 v2 v3 h = some r) : Mt mi_S_add 1 [va_rf v0, .int v1, .int v2, .int v3] h none r := by
  refine Mt.rt (lv := [(0, va_rf v0), (1, .int v1), (2, .int v2), (3, .int v3)]) (by decide +kernel) (by simp [lv_args, mj_rfc, mj_cti, mj_ctl]) (by simp [mj_rfc, mj_cti, mj_ctl]) ?_
  unfold f_S_add at hyp
  refine rt_st (pc1 := 7) (fun _ _ B => go_iload_n 2 d_S_add_0 rfl (go_bipush (v := (21 : Int32)) d_S_add_1 (by decide) (go_irem d_S_add_3 (by decide) (go_istore (lv1 := [(4, .int (mj_irem v2 (21 : Int32))), (0, va_rf v0), (1, .int v1), (2, .int v2), (3, .int v3)]) d_S_add_4 (by decide) rfl (go_iload_n 2 d_S_add_6 rfl B))))) ?_
  by_cases c1 : v1 < 0
  · replace hyp := (if_pos c1).symm.trans hyp
    refine rt_st (pc1 := 22) (fun _ _ B => go_if_lt_t 22 d_S_add_7 rfl c1 B) ?_
    exact rt_eq0 hyp (rt_void d_S_add_22 rfl)
  · replace hyp := (if_neg c1).symm.trans hyp
    refine rt_st (pc1 := 14) (fun _ _ B => go_if_lt_f d_S_add_7 rfl c1 (go_iload_n 2 d_S_add_10 rfl (go_sipush (v := (576 : Int32)) d_S_add_11 (by decide) B))) ?_
    by_cases c2 : (576 : Int32) ≤ v1
    · replace hyp := (if_pos c2).symm.trans hyp
      refine rt_st (pc1 := 22) (fun _ _ B => go_icmp_ge_t 22 d_S_add_14 rfl c2 B) ?_
      exact rt_eq0 hyp (rt_void d_S_add_22 rfl)
    · replace hyp := (if_neg c2).symm.trans hyp
      refine rt_st (pc1 := 19) (fun _ _ B => go_icmp_ge_f d_S_add_14 rfl c2 (go_iload 0 d_S_add_17 rfl B)) ?_
      by_cases c3 : 0 ≤ (mj_irem v2 (21 : Int32))
      · replace hyp := (if_pos c3).symm.trans hyp
        obtain ⟨x4, e5, hyp⟩ := Option.bind_eq_some_iff.mp hyp
        obtain ⟨x6, e7, hyp⟩ := Option.bind_eq_some_iff.mp hyp
        obtain ⟨x8, e9, hyp⟩ := Option.bind_eq_some_iff.mp hyp
        obtain ⟨h10, e11, hyp⟩ := Option.bind_eq_some_iff.mp hyp
        obtain ⟨x12, e13, hyp⟩ := Option.bind_eq_some_iff.mp hyp
        obtain ⟨h14, e15, hyp⟩ := Option.bind_eq_some_iff.mp hyp
        obtain ⟨x16, e17, hyp⟩ := Option.bind_eq_some_iff.mp hyp
        obtain ⟨h18, e19, hyp⟩ := Option.bind_eq_some_iff.mp hyp
        obtain ⟨x20, e21, hyp⟩ := Option.bind_eq_some_iff.mp hyp
        obtain ⟨h22, e23, hyp⟩ := Option.bind_eq_some_iff.mp hyp
        refine rt_st (pc1 := 63) (fun _ _ B => go_if_ge_t 23 d_S_add_19 rfl c3 (go_aload_n 1 d_S_add_23 rfl (go_gfr d_S_add_24 fd_6_5 w165 e5 (go_iload 0 d_S_add_27 rfl (go_iald d_S_add_29 e7 (go_istore (lv1 := [(5, .int x6), (4, .int (mj_irem v2 (21 : Int32))), (0, va_rf v0), (1, .int v1), (2, .int v2), (3, .int v3)]) d_S_add_30 (by decide) rfl (go_aload_n 2 d_S_add_32 rfl (go_gfr d_S_add_33 fd_6_1 w161 e9 (go_iload_n 3 d_S_add_36 rfl (go_iload_n 4 d_S_add_37 rfl (go_iast d_S_add_38 e11 (go_aload_n 2 d_S_add_39 rfl (go_gfr d_S_add_40 fd_6_2 w162 e13 (go_iload_n 3 d_S_add_43 rfl (go_iload_n 5 d_S_add_44 rfl (go_iast d_S_add_45 e15 (go_aload_n 2 d_S_add_46 rfl (go_gfr d_S_add_47 fd_6_3 w163 e17 (go_iload_n 3 d_S_add_50 rfl (go_iload 0 d_S_add_51 rfl (go_iast d_S_add_53 e19 (go_aload_n 2 d_S_add_54 rfl (go_gfr d_S_add_55 fd_6_4 w164 e21 (go_iload_n 3 d_S_add_58 rfl (go_iconst (v := (-1 : Int32)) d_S_add_59 (by decide) (go_iast d_S_add_60 e23 (go_iload 0 d_S_add_61 rfl B))))))))))))))))))))))))))) ?_
        by_cases c24 : x6 < 0
        · replace hyp := (if_pos c24).symm.trans hyp
          refine rt_st (pc1 := 82) (fun _ _ B => go_if_lt_t 82 d_S_add_63 rfl c24 B) ?_
          refine rt_sub [2, 3, 1] (lv1 := [(0, va_rf v0), (1, .int v1), (4, .int (mj_irem v2 (21 : Int32)))]) rfl ?_
          exact p_S_add_82 _ _ _ _ r hyp
        · replace hyp := (if_neg c24).symm.trans hyp
          refine rt_st (pc1 := 71) (fun _ _ B => go_if_lt_f d_S_add_63 rfl c24 (go_iload 0 d_S_add_66 rfl (go_sipush (v := (576 : Int32)) d_S_add_68 (by decide) B))) ?_
          by_cases c25 : (576 : Int32) ≤ x6
          · replace hyp := (if_pos c25).symm.trans hyp
            refine rt_st (pc1 := 82) (fun _ _ B => go_icmp_ge_t 82 d_S_add_71 rfl c25 B) ?_
            refine rt_sub [2, 3, 1] (lv1 := [(0, va_rf v0), (1, .int v1), (4, .int (mj_irem v2 (21 : Int32)))]) rfl ?_
            exact p_S_add_82 _ _ _ _ r hyp
          · replace hyp := (if_neg c25).symm.trans hyp
            obtain ⟨x26, e27, hyp⟩ := Option.bind_eq_some_iff.mp hyp
            obtain ⟨h28, e29, hyp⟩ := Option.bind_eq_some_iff.mp hyp
            refine rt_st (pc1 := 82) (fun _ _ B => go_icmp_ge_f d_S_add_71 rfl c25 (go_aload_n 2 d_S_add_74 rfl (go_gfr d_S_add_75 fd_6_4 w164 e27 (go_iload 0 d_S_add_78 rfl (go_iload_n 3 d_S_add_80 rfl (go_iast d_S_add_81 e29 B)))))) ?_
            refine rt_sub [2, 3, 1] (lv1 := [(0, va_rf v0), (1, .int v1), (4, .int (mj_irem v2 (21 : Int32)))]) rfl ?_
            exact p_S_add_82 _ _ _ _ r hyp
      · replace hyp := (if_neg c3).symm.trans hyp
        refine rt_st (pc1 := 22) (fun _ _ B => go_if_ge_f d_S_add_19 rfl c3 B) ?_
        exact rt_eq0 hyp (rt_void d_S_add_22 rfl)
/-! WideTurn.Search.remove(I)V -/
def b_S_remove_89 : (Option Nat) → (MH) → (Option MH) := fun v0 h => 
  Option.bind (gfi h v0 [6] 11) fun x1 =>
  Option.bind (pfv h v0 [6] 11 (.int (x1 - (1 : Int32)))) fun h3 =>
  some h3
def b_S_remove_71 : (Option Nat) → (Int32) → (Int32) → (MH) → (Option MH) := fun v0 v2 v3 h => 
  if v3 < 0 then
    b_S_remove_89 v0 h
  else
    if (576 : Int32) ≤ v3 then
      b_S_remove_89 v0 h
    else
      Option.bind (gfr h v0 [6] 4) fun x3 =>
      Option.bind (ast h x3 0 v3 v2) fun h5 =>
      b_S_remove_89 v0 h5
def b_S_remove_56 : (Option Nat) → (Int32) → (Int32) → (Int32) → (MH) → (Option MH) := fun v0 v1 v2 v3 h => 
  Option.bind (gfr h v0 [6] 5) fun x1 =>
  Option.bind (gfr h v0 [6] 1) fun x3 =>
  Option.bind (ald h x3 0 v1) fun x5 =>
  Option.bind (ast h x1 0 (mj_irem x5 (21 : Int32)) v3) fun h7 =>
  b_S_remove_71 v0 v2 v3 h7
def f_S_remove (v0 : Option Nat) (v1 : Int32) (h : MH) : Option MH :=
  if v1 < 0 then
    some h
  else
    if (576 : Int32) ≤ v1 then
      some h
    else
      Option.bind (gfr h v0 [6] 1) fun x3 =>
      Option.bind (ald h x3 0 v1) fun x5 =>
      if 0 ≤ x5 then
        Option.bind (gfr h v0 [6] 4) fun x8 =>
        Option.bind (ald h x8 0 v1) fun x10 =>
        Option.bind (gfr h v0 [6] 3) fun x12 =>
        Option.bind (ald h x12 0 v1) fun x14 =>
        if x10 < 0 then
          b_S_remove_56 v0 v1 x10 x14 h
        else
          if (576 : Int32) ≤ x10 then
            b_S_remove_56 v0 v1 x10 x14 h
          else
            Option.bind (gfr h v0 [6] 3) fun x18 =>
            Option.bind (ast h x18 0 x10 x14) fun h20 =>
            b_S_remove_71 v0 x10 x14 h20
      else
        some h
set_option maxHeartbeats 4000000 in
set_option maxRecDepth 200000 in
theorem p_S_remove_89 {h0 : MH} (v0 : Option Nat) (h : MH) (r : MH) : b_S_remove_89  v0 h = some r → Rt mi_S_remove 1 h0 89 [(0, va_rf v0)] [] h none r := by
  intro hyp
  unfold b_S_remove_89 at hyp
  obtain ⟨x1, e2, hyp⟩ := Option.bind_eq_some_iff.mp hyp
  obtain ⟨h3, e4, hyp⟩ := Option.bind_eq_some_iff.mp hyp
  refine rt_st (pc1 := 99) (fun _ _ B => go_aload_n 0 d_S_remove_89 rfl (go_dup d_S_remove_90 (mj_rfc _) (go_gfi d_S_remove_91 fd_6_11 w171 e2 (go_iconst (v := (1 : Int32)) d_S_remove_94 (by decide) (go_isub d_S_remove_95 (go_pfi d_S_remove_96 fd_6_11 w171 (fun q => by cases q) e4 B)))))) ?_
  exact rt_eq0 hyp (rt_void d_S_remove_99 rfl)
set_option maxHeartbeats 4000000 in
set_option maxRecDepth 200000 in
theorem p_S_remove_71 {h0 : MH} (v0 : Option Nat) (v2 : Int32) (v3 : Int32) (h : MH) (r : MH) : b_S_remove_71  v0 v2 v3 h = some r → Rt mi_S_remove 1 h0 71 [(0, va_rf v0), (2, .int v2), (3, .int v3)] [] h none r := by
  intro hyp
  unfold b_S_remove_71 at hyp
  refine rt_st (pc1 := 72) (fun _ _ B => go_iload_n 2 d_S_remove_71 rfl B) ?_
  by_cases c1 : v3 < 0
  · replace hyp := (if_pos c1).symm.trans hyp
    refine rt_st (pc1 := 89) (fun _ _ B => go_if_lt_t 89 d_S_remove_72 rfl c1 B) ?_
    refine rt_sub [0] (lv1 := [(0, va_rf v0)]) rfl ?_
    exact p_S_remove_89 _ _ r hyp
  · replace hyp := (if_neg c1).symm.trans hyp
    refine rt_st (pc1 := 79) (fun _ _ B => go_if_lt_f d_S_remove_72 rfl c1 (go_iload_n 2 d_S_remove_75 rfl (go_sipush (v := (576 : Int32)) d_S_remove_76 (by decide) B))) ?_
    by_cases c2 : (576 : Int32) ≤ v3
    · replace hyp := (if_pos c2).symm.trans hyp
      refine rt_st (pc1 := 89) (fun _ _ B => go_icmp_ge_t 89 d_S_remove_79 rfl c2 B) ?_
      refine rt_sub [0] (lv1 := [(0, va_rf v0)]) rfl ?_
      exact p_S_remove_89 _ _ r hyp
    · replace hyp := (if_neg c2).symm.trans hyp
      obtain ⟨x3, e4, hyp⟩ := Option.bind_eq_some_iff.mp hyp
      obtain ⟨h5, e6, hyp⟩ := Option.bind_eq_some_iff.mp hyp
      refine rt_st (pc1 := 89) (fun _ _ B => go_icmp_ge_f d_S_remove_79 rfl c2 (go_aload_n 0 d_S_remove_82 rfl (go_gfr d_S_remove_83 fd_6_4 w164 e4 (go_iload_n 2 d_S_remove_86 rfl (go_iload_n 1 d_S_remove_87 rfl (go_iast d_S_remove_88 e6 B)))))) ?_
      refine rt_sub [0] (lv1 := [(0, va_rf v0)]) rfl ?_
      exact p_S_remove_89 _ _ r hyp
set_option maxHeartbeats 4000000 in
set_option maxRecDepth 200000 in
theorem p_S_remove_56 {h0 : MH} (v0 : Option Nat) (v1 : Int32) (v2 : Int32) (v3 : Int32) (h : MH) (r : MH) : b_S_remove_56  v0 v1 v2 v3 h = some r → Rt mi_S_remove 1 h0 56 [(0, va_rf v0), (1, .int v1), (2, .int v2), (3, .int v3)] [] h none r := by
  intro hyp
  unfold b_S_remove_56 at hyp
  obtain ⟨x1, e2, hyp⟩ := Option.bind_eq_some_iff.mp hyp
  obtain ⟨x3, e4, hyp⟩ := Option.bind_eq_some_iff.mp hyp
  obtain ⟨x5, e6, hyp⟩ := Option.bind_eq_some_iff.mp hyp
  obtain ⟨h7, e8, hyp⟩ := Option.bind_eq_some_iff.mp hyp
  refine rt_st (pc1 := 71) (fun _ _ B => go_aload_n 0 d_S_remove_56 rfl (go_gfr d_S_remove_57 fd_6_5 w165 e2 (go_aload_n 0 d_S_remove_60 rfl (go_gfr d_S_remove_61 fd_6_1 w161 e4 (go_iload_n 1 d_S_remove_64 rfl (go_iald d_S_remove_65 e6 (go_bipush (v := (21 : Int32)) d_S_remove_66 (by decide) (go_irem d_S_remove_68 (by decide) (go_iload_n 3 d_S_remove_69 rfl (go_iast d_S_remove_70 e8 B)))))))))) ?_
  refine rt_sub [0, 2, 3] (lv1 := [(0, va_rf v0), (2, .int v2), (3, .int v3)]) rfl ?_
  exact p_S_remove_71 _ _ _ _ r hyp
set_option maxHeartbeats 4000000 in
set_option maxRecDepth 200000 in
theorem t_S_remove (v0 : Option Nat) (v1 : Int32) (h : MH) (r : MH) (hyp : f_S_remove v0 v1 h = some r) : Mt mi_S_remove 1 [va_rf v0, .int v1] h none r := by
  refine Mt.rt (lv := [(0, va_rf v0), (1, .int v1)]) (by decide +kernel) (by simp [lv_args, mj_rfc, mj_cti, mj_ctl]) (by simp [mj_rfc, mj_cti, mj_ctl]) ?_
  unfold f_S_remove at hyp
  refine rt_st (pc1 := 1) (fun _ _ B => go_iload_n 1 d_S_remove_0 rfl B) ?_
  by_cases c1 : v1 < 0
  · replace hyp := (if_pos c1).symm.trans hyp
    refine rt_st (pc1 := 20) (fun _ _ B => go_if_lt_t 20 d_S_remove_1 rfl c1 B) ?_
    exact rt_eq0 hyp (rt_void d_S_remove_20 rfl)
  · replace hyp := (if_neg c1).symm.trans hyp
    refine rt_st (pc1 := 8) (fun _ _ B => go_if_lt_f d_S_remove_1 rfl c1 (go_iload_n 1 d_S_remove_4 rfl (go_sipush (v := (576 : Int32)) d_S_remove_5 (by decide) B))) ?_
    by_cases c2 : (576 : Int32) ≤ v1
    · replace hyp := (if_pos c2).symm.trans hyp
      refine rt_st (pc1 := 20) (fun _ _ B => go_icmp_ge_t 20 d_S_remove_8 rfl c2 B) ?_
      exact rt_eq0 hyp (rt_void d_S_remove_20 rfl)
    · replace hyp := (if_neg c2).symm.trans hyp
      obtain ⟨x3, e4, hyp⟩ := Option.bind_eq_some_iff.mp hyp
      obtain ⟨x5, e6, hyp⟩ := Option.bind_eq_some_iff.mp hyp
      refine rt_st (pc1 := 17) (fun _ _ B => go_icmp_ge_f d_S_remove_8 rfl c2 (go_aload_n 0 d_S_remove_11 rfl (go_gfr d_S_remove_12 fd_6_1 w161 e4 (go_iload_n 1 d_S_remove_15 rfl (go_iald d_S_remove_16 e6 B))))) ?_
      by_cases c7 : 0 ≤ x5
      · replace hyp := (if_pos c7).symm.trans hyp
        obtain ⟨x8, e9, hyp⟩ := Option.bind_eq_some_iff.mp hyp
        obtain ⟨x10, e11, hyp⟩ := Option.bind_eq_some_iff.mp hyp
        obtain ⟨x12, e13, hyp⟩ := Option.bind_eq_some_iff.mp hyp
        obtain ⟨x14, e15, hyp⟩ := Option.bind_eq_some_iff.mp hyp
        refine rt_st (pc1 := 36) (fun _ _ B => go_if_ge_t 21 d_S_remove_17 rfl c7 (go_aload_n 0 d_S_remove_21 rfl (go_gfr d_S_remove_22 fd_6_4 w164 e9 (go_iload_n 1 d_S_remove_25 rfl (go_iald d_S_remove_26 e11 (go_istore_n (lv1 := [(2, .int x10), (0, va_rf v0), (1, .int v1)]) d_S_remove_27 (by decide) rfl (go_aload_n 1 d_S_remove_28 rfl (go_gfr d_S_remove_29 fd_6_3 w163 e13 (go_iload_n 2 d_S_remove_32 rfl (go_iald d_S_remove_33 e15 (go_istore_n (lv1 := [(3, .int x14), (2, .int x10), (0, va_rf v0), (1, .int v1)]) d_S_remove_34 (by decide) rfl (go_iload_n 1 d_S_remove_35 rfl B)))))))))))) ?_
        by_cases c16 : x10 < 0
        · replace hyp := (if_pos c16).symm.trans hyp
          refine rt_st (pc1 := 56) (fun _ _ B => go_if_lt_t 56 d_S_remove_36 rfl c16 B) ?_
          refine rt_sub [2, 3, 1, 0] (lv1 := [(0, va_rf v0), (1, .int v1), (2, .int x10), (3, .int x14)]) rfl ?_
          exact p_S_remove_56 _ _ _ _ _ r hyp
        · replace hyp := (if_neg c16).symm.trans hyp
          refine rt_st (pc1 := 43) (fun _ _ B => go_if_lt_f d_S_remove_36 rfl c16 (go_iload_n 1 d_S_remove_39 rfl (go_sipush (v := (576 : Int32)) d_S_remove_40 (by decide) B))) ?_
          by_cases c17 : (576 : Int32) ≤ x10
          · replace hyp := (if_pos c17).symm.trans hyp
            refine rt_st (pc1 := 56) (fun _ _ B => go_icmp_ge_t 56 d_S_remove_43 rfl c17 B) ?_
            refine rt_sub [2, 3, 1, 0] (lv1 := [(0, va_rf v0), (1, .int v1), (2, .int x10), (3, .int x14)]) rfl ?_
            exact p_S_remove_56 _ _ _ _ _ r hyp
          · replace hyp := (if_neg c17).symm.trans hyp
            obtain ⟨x18, e19, hyp⟩ := Option.bind_eq_some_iff.mp hyp
            obtain ⟨h20, e21, hyp⟩ := Option.bind_eq_some_iff.mp hyp
            refine rt_st (pc1 := 71) (fun _ _ B => go_icmp_ge_f d_S_remove_43 rfl c17 (go_aload_n 2 d_S_remove_46 rfl (go_gfr d_S_remove_47 fd_6_3 w163 e19 (go_iload_n 1 d_S_remove_50 rfl (go_iload_n 0 d_S_remove_51 rfl (go_iast d_S_remove_52 e21 (go_goto 71 d_S_remove_53 rfl B))))))) ?_
            refine rt_sub [2, 1, 0] (lv1 := [(0, va_rf v0), (2, .int x10), (3, .int x14)]) rfl ?_
            exact p_S_remove_71 _ _ _ _ r hyp
      · replace hyp := (if_neg c7).symm.trans hyp
        refine rt_st (pc1 := 20) (fun _ _ B => go_if_ge_f d_S_remove_17 rfl c7 B) ?_
        exact rt_eq0 hyp (rt_void d_S_remove_20 rfl)
/-! WideTurn.Search.clearAt(II)I -/
def f_S_clearAt (v0 : Option Nat) (v1 : Int32) (v2 : Int32) (h : MH) : Option (Int32) :=
  if ((v1 * (8 : Int32)) + v2) < 0 then
    some (-1 : Int32)
  else
    Option.bind (gfr h v0 [6] 0) fun x2 =>
    Option.bind (alen h x2) fun x4 =>
    if x4 ≤ ((v1 * (8 : Int32)) + v2) then
      some (-1 : Int32)
    else
      Option.bind (gfr h v0 [6] 0) fun x7 =>
      Option.bind (ald h x7 0 ((v1 * (8 : Int32)) + v2)) fun x9 =>
      some x9
set_option maxHeartbeats 4000000 in
set_option maxRecDepth 200000 in
theorem t_S_clearAt (v0 : Option Nat) (v1 : Int32) (v2 : Int32) (h : MH) (r : (Int32)) (hyp : f_S_clearAt v0 v1 v2 h = some r) : Mt mi_S_clearAt 1 [va_rf v0, .int v1, .int v2] h (some (.int r)) h := by
  refine Mt.rt (lv := [(0, va_rf v0), (1, .int v1), (2, .int v2)]) (by decide +kernel) (by simp [lv_args, mj_rfc, mj_cti, mj_ctl]) (by simp [mj_rfc, mj_cti, mj_ctl]) ?_
  unfold f_S_clearAt at hyp
  refine rt_st (pc1 := 8) (fun _ _ B => go_iload_n 1 d_S_clearAt_0 rfl (go_bipush (v := (8 : Int32)) d_S_clearAt_1 (by decide) (go_imul d_S_clearAt_3 (go_iload_n 2 d_S_clearAt_4 rfl (go_iadd d_S_clearAt_5 (go_istore_n (lv1 := [(3, .int ((v1 * (8 : Int32)) + v2)), (0, va_rf v0), (1, .int v1), (2, .int v2)]) d_S_clearAt_6 (by decide) rfl (go_iload_n 0 d_S_clearAt_7 rfl B))))))) ?_
  by_cases c1 : ((v1 * (8 : Int32)) + v2) < 0
  · replace hyp := (if_pos c1).symm.trans hyp
    refine rt_st (pc1 := 30) (fun _ _ B => go_if_lt_t 29 d_S_clearAt_8 rfl c1 (go_iconst (v := (-1 : Int32)) d_S_clearAt_29 (by decide) B)) ?_
    exact rt_eqR Value.int hyp (rt_int d_S_clearAt_30 rfl)
  · replace hyp := (if_neg c1).symm.trans hyp
    obtain ⟨x2, e3, hyp⟩ := Option.bind_eq_some_iff.mp hyp
    obtain ⟨x4, e5, hyp⟩ := Option.bind_eq_some_iff.mp hyp
    refine rt_st (pc1 := 17) (fun _ _ B => go_if_lt_f d_S_clearAt_8 rfl c1 (go_iload_n 0 d_S_clearAt_11 rfl (go_aload_n 1 d_S_clearAt_12 rfl (go_gfr d_S_clearAt_13 fd_6_0 w160 e3 (go_alen d_S_clearAt_16 e5 B))))) ?_
    by_cases c6 : x4 ≤ ((v1 * (8 : Int32)) + v2)
    · replace hyp := (if_pos c6).symm.trans hyp
      refine rt_st (pc1 := 30) (fun _ _ B => go_icmp_ge_t 29 d_S_clearAt_17 rfl c6 (go_iconst (v := (-1 : Int32)) d_S_clearAt_29 (by decide) B)) ?_
      exact rt_eqR Value.int hyp (rt_int d_S_clearAt_30 rfl)
    · replace hyp := (if_neg c6).symm.trans hyp
      obtain ⟨x7, e8, hyp⟩ := Option.bind_eq_some_iff.mp hyp
      obtain ⟨x9, e10, hyp⟩ := Option.bind_eq_some_iff.mp hyp
      refine rt_st (pc1 := 30) (fun _ _ B => go_icmp_ge_f d_S_clearAt_17 rfl c6 (go_aload_n 1 d_S_clearAt_20 rfl (go_gfr d_S_clearAt_21 fd_6_0 w160 e8 (go_iload_n 0 d_S_clearAt_24 rfl (go_iald d_S_clearAt_25 e10 (go_goto 30 d_S_clearAt_26 rfl B)))))) ?_
      exact rt_eqR Value.int hyp (rt_int d_S_clearAt_30 rfl)
/-! WideTurn.Search.behind(III)I -/
def b_S_behind_59 (h : MH) : (Int32) → (Int32) → (Option (Int32)) := fun v2 s0 => 
  some (f_S_stateOf s0 v2 (0 : Int32))
def f_S_behind (v0 : Option Nat) (v1 : Int32) (v2 : Int32) (v3 : Int32) (h : MH) : Option (Int32) :=
  Option.bind (gfi h v0 [6] 9) fun x1 =>
  if x1 = (-1 : Int32) then
    some (f_S_stateOf v1 v2 (0 : Int32))
  else
    if v3 = (2 : Int32) then
      Option.bind (gfi h v0 [6] 9) fun x5 =>
      Option.bind (f_C_beside v1 x5 h) fun x7 =>
      Option.bind (onc h v0 6 (f_S_clearAt v0 x7 v2 h)) fun x9 =>
      Option.bind (gfi h v0 [6] 8) fun x11 =>
      if x9 < x11 then
        b_S_behind_59 h v2 v1
      else
        b_S_behind_59 h v2 x7
    else
      some (f_S_stateOf v1 v2 (v3 + (1 : Int32)))
set_option maxHeartbeats 4000000 in
set_option maxRecDepth 200000 in
theorem p_S_behind_59 (h : MH) {h0 : MH} (v2 : Int32) (s0 : Int32) (r : (Int32)) : b_S_behind_59 h  v2 s0 = some r → Rt mi_S_behind 2 h0 59 [(2, .int v2)] [.int s0] h (some (.int r)) h := by
  intro hyp
  unfold b_S_behind_59 at hyp
  refine rt_st (pc1 := 64) (fun _ _ B => go_iload_n 0 d_S_behind_59 rfl (go_iconst (v := (0 : Int32)) d_S_behind_60 (by decide) (go_callS1 (st := []) [.int s0, .int v2, .int (0 : Int32)] (t_S_stateOf s0 v2 (0 : Int32) h) mm_S_stateOf (by decide) d_S_behind_61 w709 w710 rfl (Nat.le_of_ble_eq_true rfl) rfl B))) ?_
  exact rt_eqR Value.int hyp (rt_int d_S_behind_64 rfl)
set_option maxHeartbeats 4000000 in
set_option maxRecDepth 200000 in
theorem t_S_behind (v0 : Option Nat) (v1 : Int32) (v2 : Int32) (v3 : Int32) (h : MH) (r : (Int32)) (hyp : f_S_behind v0 v1 v2 v3 h = some r) : Mt mi_S_behind 2 [va_rf v0, .int v1, .int v2, .int v3] h (some (.int r)) h := by
  refine Mt.rt (lv := [(0, va_rf v0), (1, .int v1), (2, .int v2), (3, .int v3)]) (by decide +kernel) (by simp [lv_args, mj_rfc, mj_cti, mj_ctl]) (by simp [mj_rfc, mj_cti, mj_ctl]) ?_
  unfold f_S_behind at hyp
  obtain ⟨x1, e2, hyp⟩ := Option.bind_eq_some_iff.mp hyp
  refine rt_st (pc1 := 5) (fun _ _ B => go_aload_n 0 d_S_behind_0 rfl (go_gfi d_S_behind_1 fd_6_9 w169 e2 (go_iconst (v := (-1 : Int32)) d_S_behind_4 (by decide) B))) ?_
  by_cases c3 : x1 = (-1 : Int32)
  · replace hyp := (if_pos c3).symm.trans hyp
    refine rt_st (pc1 := 14) (fun _ _ B => go_icmp_ne_f d_S_behind_5 rfl c3 (go_iload_n 1 d_S_behind_8 rfl (go_iload_n 2 d_S_behind_9 rfl (go_iconst (v := (0 : Int32)) d_S_behind_10 (by decide) (go_callS1 (st := []) [.int v1, .int v2, .int (0 : Int32)] (t_S_stateOf v1 v2 (0 : Int32) h) mm_S_stateOf (by decide) d_S_behind_11 w709 w710 rfl (Nat.le_of_ble_eq_true rfl) rfl B))))) ?_
    exact rt_eqR Value.int hyp (rt_int d_S_behind_14 rfl)
  · replace hyp := (if_neg c3).symm.trans hyp
    refine rt_st (pc1 := 17) (fun _ _ B => go_icmp_ne_t 15 d_S_behind_5 rfl c3 (go_iload_n 3 d_S_behind_15 rfl (go_iconst (v := (2 : Int32)) d_S_behind_16 (by decide) B))) ?_
    by_cases c4 : v3 = (2 : Int32)
    · replace hyp := (if_pos c4).symm.trans hyp
      obtain ⟨x5, e6, hyp⟩ := Option.bind_eq_some_iff.mp hyp
      obtain ⟨x7, e8, hyp⟩ := Option.bind_eq_some_iff.mp hyp
      obtain ⟨x9, e10, hyp⟩ := Option.bind_eq_some_iff.mp hyp
      obtain ⟨x11, e12, hyp⟩ := Option.bind_eq_some_iff.mp hyp
      refine rt_st (pc1 := 50) (fun _ _ B => go_icmp_eq_t 29 d_S_behind_17 rfl c4 (go_iload_n 1 d_S_behind_29 rfl (go_aload_n 0 d_S_behind_30 rfl (go_gfi d_S_behind_31 fd_6_9 w169 e6 (go_callSN1 (st := []) [.int v1, .int x5] (t_C_beside v1 x5 h _ e8) mm_C_beside (by decide) d_S_behind_34 w748 w612 rfl (Nat.le_of_ble_eq_true rfl) rfl (go_istore (lv1 := [(4, .int x7), (0, va_rf v0), (1, .int v1), (2, .int v2), (3, .int v3)]) d_S_behind_37 (by decide) rfl (go_aload_n 1 d_S_behind_39 rfl (go_iload 0 d_S_behind_40 rfl (go_iload_n 3 d_S_behind_42 rfl (go_callV1 (q := q_6) (st := []) [.int x7, .int v2] (t_S_clearAt v0 x7 v2 h _ (onc_spec e10).2) mm_S_clearAt (by decide) d_S_behind_43 (onc_spec e10).1 rfl rfl w740 w742 w18 rfl (Nat.le_of_ble_eq_true rfl) rfl (go_aload_n 1 d_S_behind_46 rfl (go_gfi d_S_behind_47 fd_6_8 w168 e12 B)))))))))))) ?_
      by_cases c13 : x9 < x11
      · replace hyp := (if_pos c13).symm.trans hyp
        refine rt_st (pc1 := 59) (fun _ _ B => go_icmp_lt_t 58 d_S_behind_50 rfl c13 (go_iload_n 2 d_S_behind_58 rfl B)) ?_
        refine rt_sub [3] (lv1 := [(2, .int v2)]) rfl ?_
        exact p_S_behind_59 h _ _ r hyp
      · replace hyp := (if_neg c13).symm.trans hyp
        refine rt_st (pc1 := 59) (fun _ _ B => go_icmp_lt_f d_S_behind_50 rfl c13 (go_iload 0 d_S_behind_53 rfl (go_goto 59 d_S_behind_55 rfl B))) ?_
        refine rt_sub [3] (lv1 := [(2, .int v2)]) rfl ?_
        exact p_S_behind_59 h _ _ r hyp
    · replace hyp := (if_neg c4).symm.trans hyp
      refine rt_st (pc1 := 28) (fun _ _ B => go_icmp_eq_f d_S_behind_17 rfl c4 (go_iload_n 1 d_S_behind_20 rfl (go_iload_n 2 d_S_behind_21 rfl (go_iload_n 3 d_S_behind_22 rfl (go_iconst (v := (1 : Int32)) d_S_behind_23 (by decide) (go_iadd d_S_behind_24 (go_callS1 (st := []) [.int v1, .int v2, .int (v3 + (1 : Int32))] (t_S_stateOf v1 v2 (v3 + (1 : Int32)) h) mm_S_stateOf (by decide) d_S_behind_25 w709 w710 rfl (Nat.le_of_ble_eq_true rfl) rfl B))))))) ?_
      exact rt_eqR Value.int hyp (rt_int d_S_behind_28 rfl)
/-! WideTurn.Search.offer(III)V -/
def b_S_offer_30 : (Option Nat) → (Int32) → (Int32) → (Int32) → (MH) → (Option MH) := fun v0 v1 v2 v3 h => 
  Option.bind (onc h v0 6 (f_S_add v0 v1 v2 v3 h)) fun h1 =>
  some h1
def f_S_offer (v0 : Option Nat) (v1 : Int32) (v2 : Int32) (v3 : Int32) (h : MH) : Option MH :=
  Option.bind (gfr h v0 [6] 1) fun x1 =>
  Option.bind (f_C_at x1 v1 h) fun x3 =>
  if x3 ≤ v2 then
    Option.bind (gfr h v0 [6] 1) fun x6 =>
    Option.bind (f_C_at x6 v1 h) fun x8 =>
    if v2 = x8 then
      Option.bind (gfr h v0 [6] 2) fun x11 =>
      Option.bind (f_C_at x11 v1 h) fun x13 =>
      if x13 ≤ v3 then
        some h
      else
        Option.bind (gfr h v0 [6] 2) fun x16 =>
        Option.bind (f_C_put x16 v1 v3 h) fun h18 =>
        some h18
    else
      some h
  else
    Option.bind (gfr h v0 [6] 1) fun x20 =>
    Option.bind (f_C_at x20 v1 h) fun x22 =>
    if x22 = (1000000 : Int32) then
      b_S_offer_30 v0 v1 v2 v3 h
    else
      Option.bind (onc h v0 6 (f_S_remove v0 v1 h)) fun h25 =>
      b_S_offer_30 v0 v1 v2 v3 h25
set_option maxHeartbeats 4000000 in
set_option maxRecDepth 200000 in
theorem p_S_offer_30 {h0 : MH} (v0 : Option Nat) (v1 : Int32) (v2 : Int32) (v3 : Int32) (h : MH) (r : MH) : b_S_offer_30  v0 v1 v2 v3 h = some r → Rt mi_S_offer 2 h0 30 [(0, va_rf v0), (1, .int v1), (2, .int v2), (3, .int v3)] [] h none r := by
  intro hyp
  unfold b_S_offer_30 at hyp
  obtain ⟨h1, e2, hyp⟩ := Option.bind_eq_some_iff.mp hyp
  refine rt_st (pc1 := 73) (fun _ _ B => go_aload_n 0 d_S_offer_30 rfl (go_iload_n 1 d_S_offer_31 rfl (go_iload_n 2 d_S_offer_32 rfl (go_iload_n 3 d_S_offer_33 rfl (go_callV0 (q := q_6) (st := []) [.int v1, .int v2, .int v3] (t_S_add v0 v1 v2 v3 h _ (onc_spec e2).2) mm_S_add (by decide) d_S_offer_34 (onc_spec e2).1 rfl rfl w725 w727 w15 rfl (Nat.le_of_ble_eq_true rfl) rfl (go_goto 73 d_S_offer_37 rfl B)))))) ?_
  exact rt_eq0 hyp (rt_void d_S_offer_73 rfl)
set_option maxHeartbeats 4000000 in
set_option maxRecDepth 200000 in
theorem t_S_offer (v0 : Option Nat) (v1 : Int32) (v2 : Int32) (v3 : Int32) (h : MH) (r : MH) (hyp : f_S_offer v0 v1 v2 v3 h = some r) : Mt mi_S_offer 2 [va_rf v0, .int v1, .int v2, .int v3] h none r := by
  refine Mt.rt (lv := [(0, va_rf v0), (1, .int v1), (2, .int v2), (3, .int v3)]) (by decide +kernel) (by simp [lv_args, mj_rfc, mj_cti, mj_ctl]) (by simp [mj_rfc, mj_cti, mj_ctl]) ?_
  unfold f_S_offer at hyp
  obtain ⟨x1, e2, hyp⟩ := Option.bind_eq_some_iff.mp hyp
  obtain ⟨x3, e4, hyp⟩ := Option.bind_eq_some_iff.mp hyp
  refine rt_st (pc1 := 9) (fun _ _ B => go_iload_n 2 d_S_offer_0 rfl (go_aload_n 0 d_S_offer_1 rfl (go_gfr d_S_offer_2 fd_6_1 w161 e2 (go_iload_n 1 d_S_offer_5 rfl (go_callSN1 (st := [.int v2]) [va_rf x1, .int v1] (t_C_at x1 v1 h _ e4) mm_C_at (by decide) d_S_offer_6 w724 w343 rfl (Nat.le_of_ble_eq_true rfl) rfl B))))) ?_
  by_cases c5 : x3 ≤ v2
  · replace hyp := (if_pos c5).symm.trans hyp
    obtain ⟨x6, e7, hyp⟩ := Option.bind_eq_some_iff.mp hyp
    obtain ⟨x8, e9, hyp⟩ := Option.bind_eq_some_iff.mp hyp
    refine rt_st (pc1 := 49) (fun _ _ B => go_icmp_ge_t 40 d_S_offer_9 rfl c5 (go_iload_n 2 d_S_offer_40 rfl (go_aload_n 0 d_S_offer_41 rfl (go_gfr d_S_offer_42 fd_6_1 w161 e7 (go_iload_n 1 d_S_offer_45 rfl (go_callSN1 (st := [.int v2]) [va_rf x6, .int v1] (t_C_at x6 v1 h _ e9) mm_C_at (by decide) d_S_offer_46 w724 w343 rfl (Nat.le_of_ble_eq_true rfl) rfl B)))))) ?_
    by_cases c10 : v2 = x8
    · replace hyp := (if_pos c10).symm.trans hyp
      obtain ⟨x11, e12, hyp⟩ := Option.bind_eq_some_iff.mp hyp
      obtain ⟨x13, e14, hyp⟩ := Option.bind_eq_some_iff.mp hyp
      refine rt_st (pc1 := 61) (fun _ _ B => go_icmp_ne_f d_S_offer_49 rfl c10 (go_iload_n 3 d_S_offer_52 rfl (go_aload_n 0 d_S_offer_53 rfl (go_gfr d_S_offer_54 fd_6_2 w162 e12 (go_iload_n 1 d_S_offer_57 rfl (go_callSN1 (st := [.int v3]) [va_rf x11, .int v1] (t_C_at x11 v1 h _ e14) mm_C_at (by decide) d_S_offer_58 w724 w343 rfl (Nat.le_of_ble_eq_true rfl) rfl B)))))) ?_
      by_cases c15 : x13 ≤ v3
      · replace hyp := (if_pos c15).symm.trans hyp
        refine rt_st (pc1 := 73) (fun _ _ B => go_icmp_ge_t 73 d_S_offer_61 rfl c15 B) ?_
        exact rt_eq0 hyp (rt_void d_S_offer_73 rfl)
      · replace hyp := (if_neg c15).symm.trans hyp
        obtain ⟨x16, e17, hyp⟩ := Option.bind_eq_some_iff.mp hyp
        obtain ⟨h18, e19, hyp⟩ := Option.bind_eq_some_iff.mp hyp
        refine rt_st (pc1 := 73) (fun _ _ B => go_icmp_ge_f d_S_offer_61 rfl c15 (go_aload_n 0 d_S_offer_64 rfl (go_gfr d_S_offer_65 fd_6_2 w162 e17 (go_iload_n 1 d_S_offer_68 rfl (go_iload_n 3 d_S_offer_69 rfl (go_callSN0 (st := []) [va_rf x16, .int v1, .int v3] (t_C_put x16 v1 v3 h _ e19) mm_C_put (by decide) d_S_offer_70 w715 w327 rfl (Nat.le_of_ble_eq_true rfl) rfl B)))))) ?_
        exact rt_eq0 hyp (rt_void d_S_offer_73 rfl)
    · replace hyp := (if_neg c10).symm.trans hyp
      refine rt_st (pc1 := 73) (fun _ _ B => go_icmp_ne_t 73 d_S_offer_49 rfl c10 B) ?_
      exact rt_eq0 hyp (rt_void d_S_offer_73 rfl)
  · replace hyp := (if_neg c5).symm.trans hyp
    obtain ⟨x20, e21, hyp⟩ := Option.bind_eq_some_iff.mp hyp
    obtain ⟨x22, e23, hyp⟩ := Option.bind_eq_some_iff.mp hyp
    refine rt_st (pc1 := 22) (fun _ _ B => go_icmp_ge_f d_S_offer_9 rfl c5 (go_aload_n 0 d_S_offer_12 rfl (go_gfr d_S_offer_13 fd_6_1 w161 e21 (go_iload_n 1 d_S_offer_16 rfl (go_callSN1 (st := []) [va_rf x20, .int v1] (t_C_at x20 v1 h _ e23) mm_C_at (by decide) d_S_offer_17 w724 w343 rfl (Nat.le_of_ble_eq_true rfl) rfl (go_ldc (v := (1000000 : Int32)) d_S_offer_20 w712 B)))))) ?_
    by_cases c24 : x22 = (1000000 : Int32)
    · replace hyp := (if_pos c24).symm.trans hyp
      refine rt_st (pc1 := 30) (fun _ _ B => go_icmp_eq_t 30 d_S_offer_22 rfl c24 B) ?_
      exact p_S_offer_30 _ _ _ _ _ r hyp
    · replace hyp := (if_neg c24).symm.trans hyp
      obtain ⟨h25, e26, hyp⟩ := Option.bind_eq_some_iff.mp hyp
      refine rt_st (pc1 := 30) (fun _ _ B => go_icmp_eq_f d_S_offer_22 rfl c24 (go_aload_n 0 d_S_offer_25 rfl (go_iload_n 1 d_S_offer_26 rfl (go_callV0 (q := q_6) (st := []) [.int v1] (t_S_remove v0 v1 h _ (onc_spec e26).2) mm_S_remove (by decide) d_S_offer_27 (onc_spec e26).1 rfl rfl w729 w731 w16 rfl (Nat.le_of_ble_eq_true rfl) rfl B)))) ?_
      exact p_S_offer_30 _ _ _ _ _ r hyp
/-! WideTurn.Search.leave(I)V -/
def b_S_leave_189 (F : Nat) (k18 : (Option Nat) → Int32 → Int32 → Int32 → Int32 → MH → (Option MH)) : (Option Nat) → (Int32) → (Int32) → (Int32) → (Int32) → (MH) → (Option MH) := fun v0 v1 v3 v4 v5 h => 
  k18 v0 v1 v3 v4 (v5 + (1 : Int32)) h
def b_S_leave_152 (F : Nat) (k18 : (Option Nat) → Int32 → Int32 → Int32 → Int32 → MH → (Option MH)) : (Option Nat) → (Int32) → (Int32) → (Int32) → (Int32) → (Int32) → (Int32) → (Int32) → (MH) → (Option MH) := fun v0 v1 v3 v4 v5 v8 v9 s0 h => 
  Option.bind (onc h v0 6 (f_S_behind v0 v8 v9 (mj_irem v1 (3 : Int32)) h)) fun x1 =>
  Option.bind (gfr h v0 [6] 1) fun x3 =>
  Option.bind (f_C_at x3 v1 h) fun x5 =>
  Option.bind (gfr h v0 [6] 6) fun x7 =>
  Option.bind (f_C_at x7 v5 h) fun x9 =>
  Option.bind (onc h v0 6 (f_S_offer v0 x1 (x5 + x9) s0 h)) fun h11 =>
  b_S_leave_189 F k18 v0 v1 v3 v4 v5 h11
def b_S_leave_84 (F : Nat) (k18 : (Option Nat) → Int32 → Int32 → Int32 → Int32 → MH → (Option MH)) : (Option Nat) → (Int32) → (Int32) → (Int32) → (Int32) → (Int32) → (Int32) → (MH) → (Option MH) := fun v0 v1 v3 v4 v5 v6 s0 h => 
  Option.bind (f_C_middleBehind v3 v4 v6 h) fun x1 =>
  Option.bind (onc h v0 6 (f_S_clearAt v0 x1 (f_C_turnBehind v4 v6) h)) fun x3 =>
  if x3 < s0 then
    b_S_leave_189 F k18 v0 v1 v3 v4 v5 h
  else
    Option.bind (gfi h v0 [6] 10) fun x6 =>
    if v1 = x6 then
      Option.bind (gfr h v0 [6] 7) fun x9 =>
      Option.bind (f_C_at x9 v5 h) fun x11 =>
      b_S_leave_152 F k18 v0 v1 v3 v4 v5 x1 (f_C_turnBehind v4 v6) (((10 : Int32) * x11) + v6) h
    else
      Option.bind (gfr h v0 [6] 2) fun x13 =>
      Option.bind (f_C_at x13 v1 h) fun x15 =>
      b_S_leave_152 F k18 v0 v1 v3 v4 v5 x1 (f_C_turnBehind v4 v6) x15 h
def b_S_leave_58 (F : Nat) (k18 : (Option Nat) → Int32 → Int32 → Int32 → Int32 → MH → (Option MH)) : (Option Nat) → (Int32) → (Int32) → (Int32) → (Int32) → (Int32) → (MH) → (Option MH) := fun v0 v1 v3 v4 v5 s0 h => 
  if (8 : Int32) ≤ v5 then
    Option.bind (gfi h v0 [6] 8) fun x2 =>
    b_S_leave_84 F k18 v0 v1 v3 v4 v5 s0 (mj_max (0 : Int32) (x2 - (1 : Int32))) h
  else
    Option.bind (gfi h v0 [6] 8) fun x4 =>
    b_S_leave_84 F k18 v0 v1 v3 v4 v5 s0 x4 h
def b_S_leave_18 (F : Nat) : Nat → (Option Nat) → (Int32) → (Int32) → (Int32) → (Int32) → (MH) → (Option MH)
  | 0 => fun _ _ _ _ _ _ => none
  | n + 1 => fun v0 v1 v3 v4 v5 h => 
    if (10 : Int32) ≤ v5 then
      some h
    else
      Option.bind (gfr h v0 [6] 6) fun x2 =>
      Option.bind (f_C_at x2 v5 h) fun x4 =>
      if x4 = (-1000000 : Int32) then
        b_S_leave_189 F (b_S_leave_18 F n) v0 v1 v3 v4 v5 h
      else
        if (8 : Int32) ≤ v5 then
          b_S_leave_58 F (b_S_leave_18 F n) v0 v1 v3 v4 v5 (v5 - (2 : Int32)) h
        else
          b_S_leave_58 F (b_S_leave_18 F n) v0 v1 v3 v4 v5 v5 h
def f_S_leave (F : Nat) (v0 : Option Nat) (v1 : Int32) (h : MH) : Option MH :=
  b_S_leave_18 F F v0 v1 ((v1 / (3 : Int32)) / (8 : Int32)) (mj_irem (v1 / (3 : Int32)) (8 : Int32)) (0 : Int32) h
set_option maxHeartbeats 4000000 in
set_option maxRecDepth 200000 in
theorem p_S_leave_189 (F : Nat) {h0 : MH} (k18 : (Option Nat) → Int32 → Int32 → Int32 → Int32 → MH → (Option MH)) (hk18 : ∀ (v0 : Option Nat) (v1 : Int32) (v3 : Int32) (v4 : Int32) (v5 : Int32) (h : MH) (r : MH), k18 v0 v1 v3 v4 v5 h = some r → Rt mi_S_leave 3 h0 18 [(0, va_rf v0), (1, .int v1), (3, .int v3), (4, .int v4), (5, .int v5)] [] h none r) (v0 : Option Nat) (v1 : Int32) (v3 : Int32) (v4 : Int32) (v5 : Int32) (h : MH) (r : MH) : b_S_leave_189 F k18  v0 v1 v3 v4 v5 h = some r → Rt mi_S_leave 3 h0 189 [(0, va_rf v0), (1, .int v1), (3, .int v3), (4, .int v4), (5, .int v5)] [] h none r := by
  intro hyp
  unfold b_S_leave_189 at hyp
  refine rt_st (pc1 := 18) (fun _ _ B => go_iinc (v := (v5 + (1 : Int32))) (lv1 := [(5, .int (v5 + (1 : Int32))), (0, va_rf v0), (1, .int v1), (3, .int v3), (4, .int v4)]) 4 d_S_leave_189 rfl rfl (by decide) rfl (go_goto 18 d_S_leave_192 rfl B)) ?_
  refine rt_sub [1, 2, 3, 4, 0] (lv1 := [(0, va_rf v0), (1, .int v1), (3, .int v3), (4, .int v4), (5, .int (v5 + (1 : Int32)))]) rfl ?_
  exact hk18 _ _ _ _ _ _ _ hyp
set_option maxHeartbeats 4000000 in
set_option maxRecDepth 200000 in
theorem p_S_leave_152 (F : Nat) {h0 : MH} (k18 : (Option Nat) → Int32 → Int32 → Int32 → Int32 → MH → (Option MH)) (hk18 : ∀ (v0 : Option Nat) (v1 : Int32) (v3 : Int32) (v4 : Int32) (v5 : Int32) (h : MH) (r : MH), k18 v0 v1 v3 v4 v5 h = some r → Rt mi_S_leave 3 h0 18 [(0, va_rf v0), (1, .int v1), (3, .int v3), (4, .int v4), (5, .int v5)] [] h none r) (v0 : Option Nat) (v1 : Int32) (v3 : Int32) (v4 : Int32) (v5 : Int32) (v8 : Int32) (v9 : Int32) (s0 : Int32) (h : MH) (r : MH) : b_S_leave_152 F k18  v0 v1 v3 v4 v5 v8 v9 s0 h = some r → Rt mi_S_leave 3 h0 152 [(0, va_rf v0), (1, .int v1), (3, .int v3), (4, .int v4), (5, .int v5), (8, .int v8), (9, .int v9)] [.int s0] h none r := by
  intro hyp
  unfold b_S_leave_152 at hyp
  obtain ⟨x1, e2, hyp⟩ := Option.bind_eq_some_iff.mp hyp
  obtain ⟨x3, e4, hyp⟩ := Option.bind_eq_some_iff.mp hyp
  obtain ⟨x5, e6, hyp⟩ := Option.bind_eq_some_iff.mp hyp
  obtain ⟨x7, e8, hyp⟩ := Option.bind_eq_some_iff.mp hyp
  obtain ⟨x9, e10, hyp⟩ := Option.bind_eq_some_iff.mp hyp
  obtain ⟨h11, e12, hyp⟩ := Option.bind_eq_some_iff.mp hyp
  refine rt_st (pc1 := 189) (fun _ _ B => go_istore (lv1 := [(10, .int s0), (0, va_rf v0), (1, .int v1), (3, .int v3), (4, .int v4), (5, .int v5), (8, .int v8), (9, .int v9)]) d_S_leave_152 (by decide) rfl (go_aload_n 1 d_S_leave_154 rfl (go_aload_n 1 d_S_leave_155 rfl (go_iload 6 d_S_leave_156 rfl (go_iload 7 d_S_leave_158 rfl (go_iload_n 2 d_S_leave_160 rfl (go_iconst (v := (3 : Int32)) d_S_leave_161 (by decide) (go_irem d_S_leave_162 (by decide) (go_callV1 (q := q_6) (st := [va_rf v0]) [.int v8, .int v9, .int (mj_irem v1 (3 : Int32))] (t_S_behind v0 v8 v9 (mj_irem v1 (3 : Int32)) h _ (onc_spec e2).2) mm_S_behind (by decide) d_S_leave_163 (onc_spec e2).1 rfl rfl w744 w746 w19 rfl (Nat.le_of_ble_eq_true rfl) rfl (go_aload_n 1 d_S_leave_166 rfl (go_gfr d_S_leave_167 fd_6_1 w161 e4 (go_iload_n 2 d_S_leave_170 rfl (go_callSN1 (st := [.int x1, va_rf v0]) [va_rf x3, .int v1] (t_C_at x3 v1 h _ e6) mm_C_at (by decide) d_S_leave_171 w724 w343 rfl (Nat.le_of_ble_eq_true rfl) rfl (go_aload_n 1 d_S_leave_174 rfl (go_gfr d_S_leave_175 fd_6_6 w166 e8 (go_iload 5 d_S_leave_178 rfl (go_callSN1 (st := [.int x5, .int x1, va_rf v0]) [va_rf x7, .int v5] (t_C_at x7 v5 h _ e10) mm_C_at (by decide) d_S_leave_180 w724 w343 rfl (Nat.le_of_ble_eq_true rfl) rfl (go_iadd d_S_leave_183 (go_iload 0 d_S_leave_184 rfl (go_callV0 (q := q_6) (st := []) [.int x1, .int (x5 + x9), .int s0] (t_S_offer v0 x1 (x5 + x9) s0 h _ (onc_spec e12).2) mm_S_offer (by decide) d_S_leave_186 (onc_spec e12).1 rfl rfl w749 w751 w20 rfl (Nat.le_of_ble_eq_true rfl) rfl B)))))))))))))))))))) ?_
  refine rt_sub [1, 2, 3, 4, 5] (lv1 := [(0, va_rf v0), (1, .int v1), (3, .int v3), (4, .int v4), (5, .int v5)]) rfl ?_
  exact p_S_leave_189 F k18 hk18 _ _ _ _ _ _ r hyp
set_option maxHeartbeats 4000000 in
set_option maxRecDepth 200000 in
theorem p_S_leave_84 (F : Nat) {h0 : MH} (k18 : (Option Nat) → Int32 → Int32 → Int32 → Int32 → MH → (Option MH)) (hk18 : ∀ (v0 : Option Nat) (v1 : Int32) (v3 : Int32) (v4 : Int32) (v5 : Int32) (h : MH) (r : MH), k18 v0 v1 v3 v4 v5 h = some r → Rt mi_S_leave 3 h0 18 [(0, va_rf v0), (1, .int v1), (3, .int v3), (4, .int v4), (5, .int v5)] [] h none r) (v0 : Option Nat) (v1 : Int32) (v3 : Int32) (v4 : Int32) (v5 : Int32) (v6 : Int32) (s0 : Int32) (h : MH) (r : MH) : b_S_leave_84 F k18  v0 v1 v3 v4 v5 v6 s0 h = some r → Rt mi_S_leave 3 h0 84 [(0, va_rf v0), (1, .int v1), (3, .int v3), (4, .int v4), (5, .int v5), (6, .int v6)] [.int s0] h none r := by
  intro hyp
  unfold b_S_leave_84 at hyp
  obtain ⟨x1, e2, hyp⟩ := Option.bind_eq_some_iff.mp hyp
  obtain ⟨x3, e4, hyp⟩ := Option.bind_eq_some_iff.mp hyp
  refine rt_st (pc1 := 115) (fun _ _ B => go_istore (lv1 := [(7, .int s0), (0, va_rf v0), (1, .int v1), (3, .int v3), (4, .int v4), (5, .int v5), (6, .int v6)]) d_S_leave_84 (by decide) rfl (go_iload_n 3 d_S_leave_86 rfl (go_iload 4 d_S_leave_87 rfl (go_iload 6 d_S_leave_89 rfl (go_callSN1 (st := []) [.int v3, .int v4, .int v6] (t_C_middleBehind v3 v4 v6 h _ e2) mm_C_middleBehind (by decide) d_S_leave_91 w738 w609 rfl (Nat.le_of_ble_eq_true rfl) rfl (go_istore (lv1 := [(8, .int x1), (7, .int s0), (0, va_rf v0), (1, .int v1), (3, .int v3), (4, .int v4), (5, .int v5), (6, .int v6)]) d_S_leave_94 (by decide) rfl (go_iload 5 d_S_leave_96 rfl (go_iload 7 d_S_leave_98 rfl (go_callSN1 (st := []) [.int v4, .int v6] (t_C_turnBehind v4 v6 h) mm_C_turnBehind (by decide) d_S_leave_100 w739 w619 rfl (Nat.le_of_ble_eq_true rfl) rfl (go_istore (lv1 := [(9, .int (f_C_turnBehind v4 v6)), (8, .int x1), (7, .int s0), (0, va_rf v0), (1, .int v1), (3, .int v3), (4, .int v4), (5, .int v5), (6, .int v6)]) d_S_leave_103 (by decide) rfl (go_aload_n 3 d_S_leave_105 rfl (go_iload 1 d_S_leave_106 rfl (go_iload 0 d_S_leave_108 rfl (go_callV1 (q := q_6) (st := []) [.int x1, .int (f_C_turnBehind v4 v6)] (t_S_clearAt v0 x1 (f_C_turnBehind v4 v6) h _ (onc_spec e4).2) mm_S_clearAt (by decide) d_S_leave_110 (onc_spec e4).1 rfl rfl w740 w742 w18 rfl (Nat.le_of_ble_eq_true rfl) rfl (go_iload 2 d_S_leave_113 rfl B))))))))))))))) ?_
  by_cases c5 : x3 < s0
  · replace hyp := (if_pos c5).symm.trans hyp
    refine rt_st (pc1 := 189) (fun _ _ B => go_icmp_lt_t 189 d_S_leave_115 rfl c5 B) ?_
    refine rt_sub [3, 4, 5, 6, 7] (lv1 := [(0, va_rf v0), (1, .int v1), (3, .int v3), (4, .int v4), (5, .int v5)]) rfl ?_
    exact p_S_leave_189 F k18 hk18 _ _ _ _ _ _ r hyp
  · replace hyp := (if_neg c5).symm.trans hyp
    obtain ⟨x6, e7, hyp⟩ := Option.bind_eq_some_iff.mp hyp
    refine rt_st (pc1 := 123) (fun _ _ B => go_icmp_lt_f d_S_leave_115 rfl c5 (go_iload_n 4 d_S_leave_118 rfl (go_aload_n 3 d_S_leave_119 rfl (go_gfi d_S_leave_120 fd_6_10 w170 e7 B)))) ?_
    by_cases c8 : v1 = x6
    · replace hyp := (if_pos c8).symm.trans hyp
      obtain ⟨x9, e10, hyp⟩ := Option.bind_eq_some_iff.mp hyp
      obtain ⟨x11, e12, hyp⟩ := Option.bind_eq_some_iff.mp hyp
      refine rt_st (pc1 := 152) (fun _ _ B => go_icmp_ne_f d_S_leave_123 rfl c8 (go_bipush (v := (10 : Int32)) d_S_leave_126 (by decide) (go_aload_n 3 d_S_leave_128 rfl (go_gfr d_S_leave_129 fd_6_7 w167 e10 (go_iload 7 d_S_leave_132 rfl (go_callSN1 (st := [.int (10 : Int32)]) [va_rf x9, .int v5] (t_C_at x9 v5 h _ e12) mm_C_at (by decide) d_S_leave_134 w724 w343 rfl (Nat.le_of_ble_eq_true rfl) rfl (go_imul d_S_leave_137 (go_iload 8 d_S_leave_138 rfl (go_iadd d_S_leave_140 (go_goto 152 d_S_leave_141 rfl B)))))))))) ?_
      refine rt_sub [3, 4, 5, 6, 7, 1, 0] (lv1 := [(0, va_rf v0), (1, .int v1), (3, .int v3), (4, .int v4), (5, .int v5), (8, .int x1), (9, .int (f_C_turnBehind v4 v6))]) rfl ?_
      exact p_S_leave_152 F k18 hk18 _ _ _ _ _ _ _ _ _ r hyp
    · replace hyp := (if_neg c8).symm.trans hyp
      obtain ⟨x13, e14, hyp⟩ := Option.bind_eq_some_iff.mp hyp
      obtain ⟨x15, e16, hyp⟩ := Option.bind_eq_some_iff.mp hyp
      refine rt_st (pc1 := 152) (fun _ _ B => go_icmp_ne_t 144 d_S_leave_123 rfl c8 (go_aload_n 3 d_S_leave_144 rfl (go_gfr d_S_leave_145 fd_6_2 w162 e14 (go_iload_n 4 d_S_leave_148 rfl (go_callSN1 (st := []) [va_rf x13, .int v1] (t_C_at x13 v1 h _ e16) mm_C_at (by decide) d_S_leave_149 w724 w343 rfl (Nat.le_of_ble_eq_true rfl) rfl B))))) ?_
      refine rt_sub [3, 4, 5, 6, 7, 1, 0] (lv1 := [(0, va_rf v0), (1, .int v1), (3, .int v3), (4, .int v4), (5, .int v5), (8, .int x1), (9, .int (f_C_turnBehind v4 v6))]) rfl ?_
      exact p_S_leave_152 F k18 hk18 _ _ _ _ _ _ _ _ _ r hyp
set_option maxHeartbeats 4000000 in
set_option maxRecDepth 200000 in
theorem p_S_leave_58 (F : Nat) {h0 : MH} (k18 : (Option Nat) → Int32 → Int32 → Int32 → Int32 → MH → (Option MH)) (hk18 : ∀ (v0 : Option Nat) (v1 : Int32) (v3 : Int32) (v4 : Int32) (v5 : Int32) (h : MH) (r : MH), k18 v0 v1 v3 v4 v5 h = some r → Rt mi_S_leave 3 h0 18 [(0, va_rf v0), (1, .int v1), (3, .int v3), (4, .int v4), (5, .int v5)] [] h none r) (v0 : Option Nat) (v1 : Int32) (v3 : Int32) (v4 : Int32) (v5 : Int32) (s0 : Int32) (h : MH) (r : MH) : b_S_leave_58 F k18  v0 v1 v3 v4 v5 s0 h = some r → Rt mi_S_leave 3 h0 58 [(0, va_rf v0), (1, .int v1), (3, .int v3), (4, .int v4), (5, .int v5)] [.int s0] h none r := by
  intro hyp
  unfold b_S_leave_58 at hyp
  refine rt_st (pc1 := 64) (fun _ _ B => go_istore (lv1 := [(6, .int s0), (0, va_rf v0), (1, .int v1), (3, .int v3), (4, .int v4), (5, .int v5)]) d_S_leave_58 (by decide) rfl (go_iload 5 d_S_leave_60 rfl (go_bipush (v := (8 : Int32)) d_S_leave_62 (by decide) B))) ?_
  by_cases c1 : (8 : Int32) ≤ v5
  · replace hyp := (if_pos c1).symm.trans hyp
    obtain ⟨x2, e3, hyp⟩ := Option.bind_eq_some_iff.mp hyp
    refine rt_st (pc1 := 84) (fun _ _ B => go_icmp_ge_t 74 d_S_leave_64 rfl c1 (go_iconst (v := (0 : Int32)) d_S_leave_74 (by decide) (go_aload_n 1 d_S_leave_75 rfl (go_gfi d_S_leave_76 fd_6_8 w168 e3 (go_iconst (v := (1 : Int32)) d_S_leave_79 (by decide) (go_isub d_S_leave_80 (go_mmax (st := []) (by decide) (Nat.le_of_ble_eq_true rfl) d_S_leave_81 w737 B))))))) ?_
    refine rt_sub [1, 2, 3, 4, 5, 0] (lv1 := [(0, va_rf v0), (1, .int v1), (3, .int v3), (4, .int v4), (5, .int v5), (6, .int s0)]) rfl ?_
    exact p_S_leave_84 F k18 hk18 _ _ _ _ _ _ _ _ r hyp
  · replace hyp := (if_neg c1).symm.trans hyp
    obtain ⟨x4, e5, hyp⟩ := Option.bind_eq_some_iff.mp hyp
    refine rt_st (pc1 := 84) (fun _ _ B => go_icmp_ge_f d_S_leave_64 rfl c1 (go_aload_n 1 d_S_leave_67 rfl (go_gfi d_S_leave_68 fd_6_8 w168 e5 (go_goto 84 d_S_leave_71 rfl B)))) ?_
    refine rt_sub [1, 2, 3, 4, 5, 0] (lv1 := [(0, va_rf v0), (1, .int v1), (3, .int v3), (4, .int v4), (5, .int v5), (6, .int s0)]) rfl ?_
    exact p_S_leave_84 F k18 hk18 _ _ _ _ _ _ _ _ r hyp
set_option maxHeartbeats 4000000 in
set_option maxRecDepth 200000 in
theorem p_S_leave_18 (F : Nat) {h0 : MH} : ∀ (n : Nat) (v0 : Option Nat) (v1 : Int32) (v3 : Int32) (v4 : Int32) (v5 : Int32) (h : MH) (r : MH), b_S_leave_18 F  n v0 v1 v3 v4 v5 h = some r → Rt mi_S_leave 3 h0 18 [(0, va_rf v0), (1, .int v1), (3, .int v3), (4, .int v4), (5, .int v5)] [] h none r := by
  intro n
  induction n with
  | zero =>
    intro v0 v1 v3 v4 v5 h r hyp
    cases hyp
  | succ n ih =>
    intro v0 v1 v3 v4 v5 h r hyp
    unfold b_S_leave_18 at hyp
    refine rt_st (pc1 := 22) (fun _ _ B => go_iload 4 d_S_leave_18 rfl (go_bipush (v := (10 : Int32)) d_S_leave_20 (by decide) B)) ?_
    by_cases c1 : (10 : Int32) ≤ v5
    · replace hyp := (if_pos c1).symm.trans hyp
      refine rt_st (pc1 := 195) (fun _ _ B => go_icmp_ge_t 195 d_S_leave_22 rfl c1 B) ?_
      exact rt_eq0 hyp (rt_void d_S_leave_195 rfl)
    · replace hyp := (if_neg c1).symm.trans hyp
      obtain ⟨x2, e3, hyp⟩ := Option.bind_eq_some_iff.mp hyp
      obtain ⟨x4, e5, hyp⟩ := Option.bind_eq_some_iff.mp hyp
      refine rt_st (pc1 := 36) (fun _ _ B => go_icmp_ge_f d_S_leave_22 rfl c1 (go_aload_n 0 d_S_leave_25 rfl (go_gfr d_S_leave_26 fd_6_6 w166 e3 (go_iload 4 d_S_leave_29 rfl (go_callSN1 (st := []) [va_rf x2, .int v5] (t_C_at x2 v5 h _ e5) mm_C_at (by decide) d_S_leave_31 w724 w343 rfl (Nat.le_of_ble_eq_true rfl) rfl (go_ldc (v := (-1000000 : Int32)) d_S_leave_34 w720 B)))))) ?_
      by_cases c6 : x4 = (-1000000 : Int32)
      · replace hyp := (if_pos c6).symm.trans hyp
        refine rt_st (pc1 := 189) (fun _ _ B => go_icmp_ne_f d_S_leave_36 rfl c6 (go_goto 189 d_S_leave_39 rfl B)) ?_
        exact p_S_leave_189 F (b_S_leave_18 F n) (fun a0 a1 a2 a3 a4 a5 r hyp => ih a0 a1 a2 a3 a4 a5 r hyp) _ _ _ _ _ _ r hyp
      · replace hyp := (if_neg c6).symm.trans hyp
        refine rt_st (pc1 := 46) (fun _ _ B => go_icmp_ne_t 42 d_S_leave_36 rfl c6 (go_iload 4 d_S_leave_42 rfl (go_bipush (v := (8 : Int32)) d_S_leave_44 (by decide) B))) ?_
        by_cases c7 : (8 : Int32) ≤ v5
        · replace hyp := (if_pos c7).symm.trans hyp
          refine rt_st (pc1 := 58) (fun _ _ B => go_icmp_ge_t 54 d_S_leave_46 rfl c7 (go_iload 4 d_S_leave_54 rfl (go_iconst (v := (2 : Int32)) d_S_leave_56 (by decide) (go_isub d_S_leave_57 B)))) ?_
          exact p_S_leave_58 F (b_S_leave_18 F n) (fun a0 a1 a2 a3 a4 a5 r hyp => ih a0 a1 a2 a3 a4 a5 r hyp) _ _ _ _ _ _ _ r hyp
        · replace hyp := (if_neg c7).symm.trans hyp
          refine rt_st (pc1 := 58) (fun _ _ B => go_icmp_ge_f d_S_leave_46 rfl c7 (go_iload 4 d_S_leave_49 rfl (go_goto 58 d_S_leave_51 rfl B))) ?_
          exact p_S_leave_58 F (b_S_leave_18 F n) (fun a0 a1 a2 a3 a4 a5 r hyp => ih a0 a1 a2 a3 a4 a5 r hyp) _ _ _ _ _ _ _ r hyp
set_option maxHeartbeats 4000000 in
set_option maxRecDepth 200000 in
theorem t_S_leave (F : Nat) (v0 : Option Nat) (v1 : Int32) (h : MH) (r : MH) (hyp : f_S_leave F v0 v1 h = some r) : Mt mi_S_leave 3 [va_rf v0, .int v1] h none r := by
  refine Mt.rt (lv := [(0, va_rf v0), (1, .int v1)]) (by decide +kernel) (by simp [lv_args, mj_rfc, mj_cti, mj_ctl]) (by simp [mj_rfc, mj_cti, mj_ctl]) ?_
  unfold f_S_leave at hyp
  refine rt_st (pc1 := 18) (fun _ _ B => go_iload_n 1 d_S_leave_0 rfl (go_iconst (v := (3 : Int32)) d_S_leave_1 (by decide) (go_idiv d_S_leave_2 (by decide) (go_istore_n (lv1 := [(2, .int (v1 / (3 : Int32))), (0, va_rf v0), (1, .int v1)]) d_S_leave_3 (by decide) rfl (go_iload_n 0 d_S_leave_4 rfl (go_bipush (v := (8 : Int32)) d_S_leave_5 (by decide) (go_idiv d_S_leave_7 (by decide) (go_istore_n (lv1 := [(3, .int ((v1 / (3 : Int32)) / (8 : Int32))), (2, .int (v1 / (3 : Int32))), (0, va_rf v0), (1, .int v1)]) d_S_leave_8 (by decide) rfl (go_iload_n 1 d_S_leave_9 rfl (go_bipush (v := (8 : Int32)) d_S_leave_10 (by decide) (go_irem d_S_leave_12 (by decide) (go_istore (lv1 := [(4, .int (mj_irem (v1 / (3 : Int32)) (8 : Int32))), (3, .int ((v1 / (3 : Int32)) / (8 : Int32))), (2, .int (v1 / (3 : Int32))), (0, va_rf v0), (1, .int v1)]) d_S_leave_13 (by decide) rfl (go_iconst (v := (0 : Int32)) d_S_leave_15 (by decide) (go_istore (lv1 := [(5, .int (0 : Int32)), (4, .int (mj_irem (v1 / (3 : Int32)) (8 : Int32))), (3, .int ((v1 / (3 : Int32)) / (8 : Int32))), (2, .int (v1 / (3 : Int32))), (0, va_rf v0), (1, .int v1)]) d_S_leave_16 (by decide) rfl B)))))))))))))) ?_
  refine rt_sub [4, 5, 2, 1, 0] (lv1 := [(0, va_rf v0), (1, .int v1), (3, .int ((v1 / (3 : Int32)) / (8 : Int32))), (4, .int (mj_irem (v1 / (3 : Int32)) (8 : Int32))), (5, .int (0 : Int32))]) rfl ?_
  exact p_S_leave_18 F F _ _ _ _ _ _ r hyp
/-! WideTurn.Search.explore(LWideTurn.Basin;II)V -/
def b_S_explore_112 (F : Nat) (k25 : (Option Nat) → Int32 → Int32 → MH → (Option MH)) : (Option Nat) → (Int32) → (Int32) → (MH) → (Option MH) := fun v0 v3 v4 h => 
  k25 v0 v3 (v4 + (1 : Int32)) h
def b_S_explore_50 (F : Nat) (k25 : (Option Nat) → Int32 → Int32 → MH → (Option MH)) : Nat → (Option Nat) → (Int32) → (Int32) → (Int32) → (Int32) → (MH) → (Option MH)
  | 0 => fun _ _ _ _ _ _ => none
  | n + 1 => fun v0 v3 v4 v5 v6 h => 
    if (576 : Int32) ≤ v6 then
      b_S_explore_112 F k25 v0 v3 v4 h
    else
      Option.bind (gfr h v0 [6] 5) fun x2 =>
      Option.bind (f_C_at x2 v5 h) fun x4 =>
      if x4 = (-1 : Int32) then
        b_S_explore_112 F k25 v0 v3 v4 h
      else
        Option.bind (gfr h v0 [6] 5) fun x7 =>
        Option.bind (f_C_at x7 v5 h) fun x9 =>
        if (mj_irem (x9 / (3 : Int32)) (8 : Int32)) = v3 then
          some h
        else
          Option.bind (onc h v0 6 (f_S_remove v0 x9 h)) fun h12 =>
          Option.bind (onc h12 v0 6 (f_S_leave F v0 x9 h12)) fun h14 =>
          (b_S_explore_50 F k25 n) v0 v3 v4 v5 (v6 + (1 : Int32)) h14
def b_S_explore_25 (F : Nat) : Nat → (Option Nat) → (Int32) → (Int32) → (MH) → (Option MH)
  | 0 => fun _ _ _ _ => none
  | n + 1 => fun v0 v3 v4 h => 
    if (11520 : Int32) < v4 then
      some h
    else
      Option.bind (gfi h v0 [6] 11) fun x2 =>
      if x2 ≤ 0 then
        some h
      else
        b_S_explore_50 F (b_S_explore_25 F n) F v0 v3 v4 (mj_irem v4 (21 : Int32)) (0 : Int32) h
def f_S_explore (F : Nat) (v0 : Option Nat) (v1 : Option Nat) (v2 : Int32) (v3 : Int32) (h : MH) : Option MH :=
  Option.bind (onc h v0 6 (f_S_prepare F v0 v1 v2 h)) fun h1 =>
  Option.bind (onc h1 v0 6 (f_S_choosePacers F v0 v1 h1)) fun h3 =>
  Option.bind (gfi h3 v0 [6] 10) fun x5 =>
  Option.bind (onc h3 v0 6 (f_S_add v0 x5 (0 : Int32) (-1000000 : Int32) h3)) fun h7 =>
  b_S_explore_25 F F v0 v3 (0 : Int32) h7
set_option maxHeartbeats 4000000 in
set_option maxRecDepth 200000 in
theorem p_S_explore_112 (F : Nat) {h0 : MH} (k25 : (Option Nat) → Int32 → Int32 → MH → (Option MH)) (hk25 : ∀ (v0 : Option Nat) (v3 : Int32) (v4 : Int32) (h : MH) (r : MH), k25 v0 v3 v4 h = some r → Rt mi_S_explore 4 h0 25 [(0, va_rf v0), (3, .int v3), (4, .int v4)] [] h none r) (v0 : Option Nat) (v3 : Int32) (v4 : Int32) (h : MH) (r : MH) : b_S_explore_112 F k25  v0 v3 v4 h = some r → Rt mi_S_explore 4 h0 112 [(0, va_rf v0), (3, .int v3), (4, .int v4)] [] h none r := by
  intro hyp
  unfold b_S_explore_112 at hyp
  refine rt_st (pc1 := 25) (fun _ _ B => go_iinc (v := (v4 + (1 : Int32))) (lv1 := [(4, .int (v4 + (1 : Int32))), (0, va_rf v0), (3, .int v3)]) 2 d_S_explore_112 rfl rfl (by decide) rfl (go_goto 25 d_S_explore_115 rfl B)) ?_
  refine rt_sub [1, 2, 0] (lv1 := [(0, va_rf v0), (3, .int v3), (4, .int (v4 + (1 : Int32)))]) rfl ?_
  exact hk25 _ _ _ _ _ hyp
set_option maxHeartbeats 4000000 in
set_option maxRecDepth 200000 in
theorem p_S_explore_50 (F : Nat) {h0 : MH} (k25 : (Option Nat) → Int32 → Int32 → MH → (Option MH)) (hk25 : ∀ (v0 : Option Nat) (v3 : Int32) (v4 : Int32) (h : MH) (r : MH), k25 v0 v3 v4 h = some r → Rt mi_S_explore 4 h0 25 [(0, va_rf v0), (3, .int v3), (4, .int v4)] [] h none r) : ∀ (n : Nat) (v0 : Option Nat) (v3 : Int32) (v4 : Int32) (v5 : Int32) (v6 : Int32) (h : MH) (r : MH), b_S_explore_50 F k25  n v0 v3 v4 v5 v6 h = some r → Rt mi_S_explore 4 h0 50 [(0, va_rf v0), (3, .int v3), (4, .int v4), (5, .int v5), (6, .int v6)] [] h none r := by
  intro n
  induction n with
  | zero =>
    intro v0 v3 v4 v5 v6 h r hyp
    cases hyp
  | succ n ih =>
    intro v0 v3 v4 v5 v6 h r hyp
    unfold b_S_explore_50 at hyp
    refine rt_st (pc1 := 55) (fun _ _ B => go_iload 4 d_S_explore_50 rfl (go_sipush (v := (576 : Int32)) d_S_explore_52 (by decide) B)) ?_
    by_cases c1 : (576 : Int32) ≤ v6
    · replace hyp := (if_pos c1).symm.trans hyp
      refine rt_st (pc1 := 112) (fun _ _ B => go_icmp_ge_t 112 d_S_explore_55 rfl c1 B) ?_
      refine rt_sub [0, 1, 2] (lv1 := [(0, va_rf v0), (3, .int v3), (4, .int v4)]) rfl ?_
      exact p_S_explore_112 F k25 hk25 _ _ _ _ r hyp
    · replace hyp := (if_neg c1).symm.trans hyp
      obtain ⟨x2, e3, hyp⟩ := Option.bind_eq_some_iff.mp hyp
      obtain ⟨x4, e5, hyp⟩ := Option.bind_eq_some_iff.mp hyp
      refine rt_st (pc1 := 68) (fun _ _ B => go_icmp_ge_f d_S_explore_55 rfl c1 (go_aload_n 0 d_S_explore_58 rfl (go_gfr d_S_explore_59 fd_6_5 w165 e3 (go_iload 3 d_S_explore_62 rfl (go_callSN1 (st := []) [va_rf x2, .int v5] (t_C_at x2 v5 h _ e5) mm_C_at (by decide) d_S_explore_64 w724 w343 rfl (Nat.le_of_ble_eq_true rfl) rfl (go_iconst (v := (-1 : Int32)) d_S_explore_67 (by decide) B)))))) ?_
      by_cases c6 : x4 = (-1 : Int32)
      · replace hyp := (if_pos c6).symm.trans hyp
        refine rt_st (pc1 := 112) (fun _ _ B => go_icmp_eq_t 112 d_S_explore_68 rfl c6 B) ?_
        refine rt_sub [0, 1, 2] (lv1 := [(0, va_rf v0), (3, .int v3), (4, .int v4)]) rfl ?_
        exact p_S_explore_112 F k25 hk25 _ _ _ _ r hyp
      · replace hyp := (if_neg c6).symm.trans hyp
        obtain ⟨x7, e8, hyp⟩ := Option.bind_eq_some_iff.mp hyp
        obtain ⟨x9, e10, hyp⟩ := Option.bind_eq_some_iff.mp hyp
        refine rt_st (pc1 := 90) (fun _ _ B => go_icmp_eq_f d_S_explore_68 rfl c6 (go_aload_n 0 d_S_explore_71 rfl (go_gfr d_S_explore_72 fd_6_5 w165 e8 (go_iload 3 d_S_explore_75 rfl (go_callSN1 (st := []) [va_rf x7, .int v5] (t_C_at x7 v5 h _ e10) mm_C_at (by decide) d_S_explore_77 w724 w343 rfl (Nat.le_of_ble_eq_true rfl) rfl (go_istore (lv1 := [(7, .int x9), (0, va_rf v0), (3, .int v3), (4, .int v4), (5, .int v5), (6, .int v6)]) d_S_explore_80 (by decide) rfl (go_iload 0 d_S_explore_82 rfl (go_iconst (v := (3 : Int32)) d_S_explore_84 (by decide) (go_idiv d_S_explore_85 (by decide) (go_bipush (v := (8 : Int32)) d_S_explore_86 (by decide) (go_irem d_S_explore_88 (by decide) (go_iload_n 2 d_S_explore_89 rfl B)))))))))))) ?_
        by_cases c11 : (mj_irem (x9 / (3 : Int32)) (8 : Int32)) = v3
        · replace hyp := (if_pos c11).symm.trans hyp
          refine rt_st (pc1 := 93) (fun _ _ B => go_icmp_ne_f d_S_explore_90 rfl c11 B) ?_
          exact rt_eq0 hyp (rt_void d_S_explore_93 rfl)
        · replace hyp := (if_neg c11).symm.trans hyp
          obtain ⟨h12, e13, hyp⟩ := Option.bind_eq_some_iff.mp hyp
          obtain ⟨h14, e15, hyp⟩ := Option.bind_eq_some_iff.mp hyp
          refine rt_st (pc1 := 50) (fun _ _ B => go_icmp_ne_t 94 d_S_explore_90 rfl c11 (go_aload_n 1 d_S_explore_94 rfl (go_iload 0 d_S_explore_95 rfl (go_callV0 (q := q_6) (st := []) [.int x9] (t_S_remove v0 x9 h _ (onc_spec e13).2) mm_S_remove (by decide) d_S_explore_97 (onc_spec e13).1 rfl rfl w729 w731 w16 rfl (Nat.le_of_ble_eq_true rfl) rfl (go_aload_n 1 d_S_explore_100 rfl (go_iload 0 d_S_explore_101 rfl (go_callV0 (q := q_6) (st := []) [.int x9] (t_S_leave F v0 x9 h12 _ (onc_spec e15).2) mm_S_leave (by decide) d_S_explore_103 (onc_spec e15).1 rfl rfl w733 w735 w17 rfl (Nat.le_of_ble_eq_true rfl) rfl (go_iinc (v := (v6 + (1 : Int32))) (lv1 := [(6, .int (v6 + (1 : Int32))), (7, .int x9), (0, va_rf v0), (3, .int v3), (4, .int v4), (5, .int v5)]) 5 d_S_explore_106 rfl rfl (by decide) rfl (go_goto 50 d_S_explore_109 rfl B))))))))) ?_
          refine rt_sub [2, 3, 4, 5, 0] (lv1 := [(0, va_rf v0), (3, .int v3), (4, .int v4), (5, .int v5), (6, .int (v6 + (1 : Int32)))]) rfl ?_
          exact ih _ _ _ _ _ _ _ hyp
set_option maxHeartbeats 4000000 in
set_option maxRecDepth 200000 in
theorem p_S_explore_25 (F : Nat) {h0 : MH} : ∀ (n : Nat) (v0 : Option Nat) (v3 : Int32) (v4 : Int32) (h : MH) (r : MH), b_S_explore_25 F  n v0 v3 v4 h = some r → Rt mi_S_explore 4 h0 25 [(0, va_rf v0), (3, .int v3), (4, .int v4)] [] h none r := by
  intro n
  induction n with
  | zero =>
    intro v0 v3 v4 h r hyp
    cases hyp
  | succ n ih =>
    intro v0 v3 v4 h r hyp
    unfold b_S_explore_25 at hyp
    refine rt_st (pc1 := 30) (fun _ _ B => go_iload 2 d_S_explore_25 rfl (go_sipush (v := (11520 : Int32)) d_S_explore_27 (by decide) B)) ?_
    by_cases c1 : (11520 : Int32) < v4
    · replace hyp := (if_pos c1).symm.trans hyp
      refine rt_st (pc1 := 118) (fun _ _ B => go_icmp_gt_t 118 d_S_explore_30 rfl c1 B) ?_
      exact rt_eq0 hyp (rt_void d_S_explore_118 rfl)
    · replace hyp := (if_neg c1).symm.trans hyp
      obtain ⟨x2, e3, hyp⟩ := Option.bind_eq_some_iff.mp hyp
      refine rt_st (pc1 := 37) (fun _ _ B => go_icmp_gt_f d_S_explore_30 rfl c1 (go_aload_n 0 d_S_explore_33 rfl (go_gfi d_S_explore_34 fd_6_11 w171 e3 B))) ?_
      by_cases c4 : x2 ≤ 0
      · replace hyp := (if_pos c4).symm.trans hyp
        refine rt_st (pc1 := 118) (fun _ _ B => go_if_le_t 118 d_S_explore_37 rfl c4 B) ?_
        exact rt_eq0 hyp (rt_void d_S_explore_118 rfl)
      · replace hyp := (if_neg c4).symm.trans hyp
        refine rt_st (pc1 := 50) (fun _ _ B => go_if_le_f d_S_explore_37 rfl c4 (go_iload 2 d_S_explore_40 rfl (go_bipush (v := (21 : Int32)) d_S_explore_42 (by decide) (go_irem d_S_explore_44 (by decide) (go_istore (lv1 := [(5, .int (mj_irem v4 (21 : Int32))), (0, va_rf v0), (3, .int v3), (4, .int v4)]) d_S_explore_45 (by decide) rfl (go_iconst (v := (0 : Int32)) d_S_explore_47 (by decide) (go_istore (lv1 := [(6, .int (0 : Int32)), (5, .int (mj_irem v4 (21 : Int32))), (0, va_rf v0), (3, .int v3), (4, .int v4)]) d_S_explore_48 (by decide) rfl B))))))) ?_
        refine rt_sub [2, 3, 4, 1, 0] (lv1 := [(0, va_rf v0), (3, .int v3), (4, .int v4), (5, .int (mj_irem v4 (21 : Int32))), (6, .int (0 : Int32))]) rfl ?_
        exact p_S_explore_50 F (b_S_explore_25 F n) (fun a0 a1 a2 a3 r hyp => ih a0 a1 a2 a3 r hyp) F _ _ _ _ _ _ r hyp
set_option maxHeartbeats 4000000 in
set_option maxRecDepth 200000 in
theorem t_S_explore (F : Nat) (v0 : Option Nat) (v1 : Option Nat) (v2 : Int32) (v3 : Int32) (h : MH) (r : MH) (hyp : f_S_explore F v0 v1 v2 v3 h = some r) : Mt mi_S_explore 4 [va_rf v0, va_rf v1, .int v2, .int v3] h none r := by
  refine Mt.rt (lv := [(0, va_rf v0), (1, va_rf v1), (2, .int v2), (3, .int v3)]) (by decide +kernel) (by simp [lv_args, mj_rfc, mj_cti, mj_ctl]) (by simp [mj_rfc, mj_cti, mj_ctl]) ?_
  unfold f_S_explore at hyp
  obtain ⟨h1, e2, hyp⟩ := Option.bind_eq_some_iff.mp hyp
  obtain ⟨h3, e4, hyp⟩ := Option.bind_eq_some_iff.mp hyp
  obtain ⟨x5, e6, hyp⟩ := Option.bind_eq_some_iff.mp hyp
  obtain ⟨h7, e8, hyp⟩ := Option.bind_eq_some_iff.mp hyp
  refine rt_st (pc1 := 25) (fun _ _ B => go_aload_n 0 d_S_explore_0 rfl (go_aload_n 1 d_S_explore_1 rfl (go_iload_n 2 d_S_explore_2 rfl (go_callV0 (q := q_6) (st := []) [va_rf v1, .int v2] (t_S_prepare F v0 v1 v2 h _ (onc_spec e2).2) mm_S_prepare (by decide) d_S_explore_3 (onc_spec e2).1 rfl rfl w704 w706 w13 rfl (Nat.le_of_ble_eq_true rfl) rfl (go_aload_n 0 d_S_explore_6 rfl (go_aload_n 1 d_S_explore_7 rfl (go_callV0 (q := q_6) (st := []) [va_rf v1] (t_S_choosePacers F v0 v1 h1 _ (onc_spec e4).2) mm_S_choosePacers (by decide) d_S_explore_8 (onc_spec e4).1 rfl rfl w716 w718 w14 rfl (Nat.le_of_ble_eq_true rfl) rfl (go_aload_n 0 d_S_explore_11 rfl (go_aload_n 0 d_S_explore_12 rfl (go_gfi d_S_explore_13 fd_6_10 w170 e6 (go_iconst (v := (0 : Int32)) d_S_explore_16 (by decide) (go_ldc (v := (-1000000 : Int32)) d_S_explore_17 w720 (go_callV0 (q := q_6) (st := []) [.int x5, .int (0 : Int32), .int (-1000000 : Int32)] (t_S_add v0 x5 (0 : Int32) (-1000000 : Int32) h3 _ (onc_spec e8).2) mm_S_add (by decide) d_S_explore_19 (onc_spec e8).1 rfl rfl w725 w727 w15 rfl (Nat.le_of_ble_eq_true rfl) rfl (go_iconst (v := (0 : Int32)) d_S_explore_22 (by decide) (go_istore (lv1 := [(4, .int (0 : Int32)), (0, va_rf v0), (1, va_rf v1), (2, .int v2), (3, .int v3)]) d_S_explore_23 (by decide) rfl B))))))))))))))) ?_
  refine rt_sub [1, 4, 0] (lv1 := [(0, va_rf v0), (3, .int v3), (4, .int (0 : Int32))]) rfl ?_
  exact p_S_explore_25 F F _ _ _ _ r hyp
/-! WideTurn.Search.seek(III)V -/
def b_S_seek_174 (F : Nat) : (Option Nat) → (Int32) → (MH) → (Option MH) := fun s0 s1 h => 
  Option.bind (pfv h s0 [6] 13 (.int s1)) fun h1 =>
  some h1
def b_S_seek_156 (F : Nat) : (Option Nat) → (Int32) → (Int32) → (Option Nat) → (Int32) → (MH) → (Option MH) := fun v0 v4 v5 s0 s1 h => 
  Option.bind (pfv h s0 [6] 12 (.int s1)) fun h1 =>
  if v4 = (1000000 : Int32) then
    b_S_seek_174 F v0 (-1000000 : Int32) h1
  else
    b_S_seek_174 F v0 v5 h1
def b_S_seek_129 (F : Nat) (k11 : (Option Nat) → Int32 → Int32 → Int32 → Int32 → Int32 → MH → (Option MH)) (k20 : (Option Nat) → Int32 → Int32 → Int32 → Int32 → Int32 → Int32 → MH → (Option MH)) : (Option Nat) → (Int32) → (Int32) → (Int32) → (Int32) → (Int32) → (Int32) → (MH) → (Option MH) := fun v0 v2 v3 v4 v5 v6 v7 h => 
  k20 v0 v2 v3 v4 v5 v6 (v7 + (1 : Int32)) h
def b_S_seek_116 (F : Nat) (k11 : (Option Nat) → Int32 → Int32 → Int32 → Int32 → Int32 → MH → (Option MH)) (k20 : (Option Nat) → Int32 → Int32 → Int32 → Int32 → Int32 → Int32 → MH → (Option MH)) : (Option Nat) → (Int32) → (Int32) → (Int32) → (Int32) → (Int32) → (Int32) → (MH) → (Option MH) := fun v0 v2 v3 v6 v7 v8 s0 h => 
  Option.bind (gfr h v0 [6] 1) fun x1 =>
  Option.bind (f_C_at x1 v8 h) fun x3 =>
  b_S_seek_129 F k11 k20 v0 v2 v3 x3 s0 v6 v7 h
def b_S_seek_83 (F : Nat) (k11 : (Option Nat) → Int32 → Int32 → Int32 → Int32 → Int32 → MH → (Option MH)) (k20 : (Option Nat) → Int32 → Int32 → Int32 → Int32 → Int32 → Int32 → MH → (Option MH)) : (Option Nat) → (Int32) → (Int32) → (Int32) → (Int32) → (Int32) → (Int32) → (Int32) → (MH) → (Option MH) := fun v0 v2 v3 v5 v6 v7 v8 s0 h => 
  if s0 = 0 then
    Option.bind (gfr h v0 [6] 2) fun x2 =>
    Option.bind (f_C_at x2 v8 h) fun x4 =>
    b_S_seek_116 F k11 k20 v0 v2 v3 v6 v7 v8 x4 h
  else
    Option.bind (gfr h v0 [6] 2) fun x6 =>
    Option.bind (f_C_at x6 v8 h) fun x8 =>
    b_S_seek_116 F k11 k20 v0 v2 v3 v6 v7 v8 (mj_min v5 x8) h
def b_S_seek_20 (F : Nat) (k11 : (Option Nat) → Int32 → Int32 → Int32 → Int32 → Int32 → MH → (Option MH)) : Nat → (Option Nat) → (Int32) → (Int32) → (Int32) → (Int32) → (Int32) → (Int32) → (MH) → (Option MH)
  | 0 => fun _ _ _ _ _ _ _ _ => none
  | n + 1 => fun v0 v2 v3 v4 v5 v6 v7 h => 
    if (3 : Int32) ≤ v7 then
      k11 v0 v2 v3 v4 v5 (v6 + (1 : Int32)) h
    else
      if (f_C_within (f_S_stateOf v6 v3 v7) (576 : Int32)) = 0 then
        b_S_seek_129 F k11 (b_S_seek_20 F k11 n) v0 v2 v3 v4 v5 v6 v7 h
      else
        Option.bind (gfr h v0 [6] 1) fun x3 =>
        Option.bind (f_C_at x3 (f_S_stateOf v6 v3 v7) h) fun x5 =>
        if x5 ≤ v4 then
          Option.bind (gfr h v0 [6] 1) fun x8 =>
          Option.bind (f_C_at x8 (f_S_stateOf v6 v3 v7) h) fun x10 =>
          if x10 = v4 then
            b_S_seek_83 F k11 (b_S_seek_20 F k11 n) v0 v2 v3 v5 v6 v7 (f_S_stateOf v6 v3 v7) (1 : Int32) h
          else
            b_S_seek_83 F k11 (b_S_seek_20 F k11 n) v0 v2 v3 v5 v6 v7 (f_S_stateOf v6 v3 v7) (0 : Int32) h
        else
          b_S_seek_129 F k11 (b_S_seek_20 F k11 n) v0 v2 v3 v4 v5 v6 v7 h
def b_S_seek_11 (F : Nat) : Nat → (Option Nat) → (Int32) → (Int32) → (Int32) → (Int32) → (Int32) → (MH) → (Option MH)
  | 0 => fun _ _ _ _ _ _ _ => none
  | n + 1 => fun v0 v2 v3 v4 v5 v6 h => 
    if v2 < v6 then
      if v4 = (1000000 : Int32) then
        b_S_seek_156 F v0 v4 v5 v0 (-1000000 : Int32) h
      else
        b_S_seek_156 F v0 v4 v5 v0 v4 h
    else
      b_S_seek_20 F (b_S_seek_11 F n) F v0 v2 v3 v4 v5 v6 (0 : Int32) h
def f_S_seek (F : Nat) (v0 : Option Nat) (v1 : Int32) (v2 : Int32) (v3 : Int32) (h : MH) : Option MH :=
  b_S_seek_11 F F v0 v2 v3 (1000000 : Int32) (-1000000 : Int32) v1 h
set_option maxHeartbeats 4000000 in
set_option maxRecDepth 200000 in
theorem p_S_seek_174 (F : Nat) {h0 : MH} (s0 : Option Nat) (s1 : Int32) (h : MH) (r : MH) : b_S_seek_174 F  s0 s1 h = some r → Rt mi_S_seek 2 h0 174 [] [.int s1, va_rf s0] h none r := by
  intro hyp
  unfold b_S_seek_174 at hyp
  obtain ⟨h1, e2, hyp⟩ := Option.bind_eq_some_iff.mp hyp
  refine rt_st (pc1 := 177) (fun _ _ B => go_pfi d_S_seek_174 fd_6_13 w174 (fun q => by cases q) e2 B) ?_
  exact rt_eq0 hyp (rt_void d_S_seek_177 rfl)
set_option maxHeartbeats 4000000 in
set_option maxRecDepth 200000 in
theorem p_S_seek_156 (F : Nat) {h0 : MH} (v0 : Option Nat) (v4 : Int32) (v5 : Int32) (s0 : Option Nat) (s1 : Int32) (h : MH) (r : MH) : b_S_seek_156 F  v0 v4 v5 s0 s1 h = some r → Rt mi_S_seek 2 h0 156 [(0, va_rf v0), (4, .int v4), (5, .int v5)] [.int s1, va_rf s0] h none r := by
  intro hyp
  unfold b_S_seek_156 at hyp
  obtain ⟨h1, e2, hyp⟩ := Option.bind_eq_some_iff.mp hyp
  refine rt_st (pc1 := 164) (fun _ _ B => go_pfi d_S_seek_156 fd_6_12 w172 (fun q => by cases q) e2 (go_aload_n 0 d_S_seek_159 rfl (go_iload 1 d_S_seek_160 rfl (go_ldc (v := (1000000 : Int32)) d_S_seek_162 w712 B)))) ?_
  by_cases c3 : v4 = (1000000 : Int32)
  · replace hyp := (if_pos c3).symm.trans hyp
    refine rt_st (pc1 := 174) (fun _ _ B => go_icmp_ne_f d_S_seek_164 rfl c3 (go_ldc (v := (-1000000 : Int32)) d_S_seek_167 w720 (go_goto 174 d_S_seek_169 rfl B))) ?_
    refine rt_sub [] (lv1 := []) rfl ?_
    exact p_S_seek_174 F _ _ _ r hyp
  · replace hyp := (if_neg c3).symm.trans hyp
    refine rt_st (pc1 := 174) (fun _ _ B => go_icmp_ne_t 172 d_S_seek_164 rfl c3 (go_iload 2 d_S_seek_172 rfl B)) ?_
    refine rt_sub [] (lv1 := []) rfl ?_
    exact p_S_seek_174 F _ _ _ r hyp
set_option maxHeartbeats 4000000 in
set_option maxRecDepth 200000 in
theorem p_S_seek_129 (F : Nat) {h0 : MH} (k11 : (Option Nat) → Int32 → Int32 → Int32 → Int32 → Int32 → MH → (Option MH)) (k20 : (Option Nat) → Int32 → Int32 → Int32 → Int32 → Int32 → Int32 → MH → (Option MH)) (hk11 : ∀ (v0 : Option Nat) (v2 : Int32) (v3 : Int32) (v4 : Int32) (v5 : Int32) (v6 : Int32) (h : MH) (r : MH), k11 v0 v2 v3 v4 v5 v6 h = some r → Rt mi_S_seek 2 h0 11 [(0, va_rf v0), (2, .int v2), (3, .int v3), (4, .int v4), (5, .int v5), (6, .int v6)] [] h none r) (hk20 : ∀ (v0 : Option Nat) (v2 : Int32) (v3 : Int32) (v4 : Int32) (v5 : Int32) (v6 : Int32) (v7 : Int32) (h : MH) (r : MH), k20 v0 v2 v3 v4 v5 v6 v7 h = some r → Rt mi_S_seek 2 h0 20 [(0, va_rf v0), (2, .int v2), (3, .int v3), (4, .int v4), (5, .int v5), (6, .int v6), (7, .int v7)] [] h none r) (v0 : Option Nat) (v2 : Int32) (v3 : Int32) (v4 : Int32) (v5 : Int32) (v6 : Int32) (v7 : Int32) (h : MH) (r : MH) : b_S_seek_129 F k11 k20  v0 v2 v3 v4 v5 v6 v7 h = some r → Rt mi_S_seek 2 h0 129 [(0, va_rf v0), (2, .int v2), (3, .int v3), (4, .int v4), (5, .int v5), (6, .int v6), (7, .int v7)] [] h none r := by
  intro hyp
  unfold b_S_seek_129 at hyp
  refine rt_st (pc1 := 20) (fun _ _ B => go_iinc (v := (v7 + (1 : Int32))) (lv1 := [(7, .int (v7 + (1 : Int32))), (0, va_rf v0), (2, .int v2), (3, .int v3), (4, .int v4), (5, .int v5), (6, .int v6)]) 6 d_S_seek_129 rfl rfl (by decide) rfl (go_goto 20 d_S_seek_132 rfl B)) ?_
  refine rt_sub [1, 2, 3, 4, 5, 6, 0] (lv1 := [(0, va_rf v0), (2, .int v2), (3, .int v3), (4, .int v4), (5, .int v5), (6, .int v6), (7, .int (v7 + (1 : Int32)))]) rfl ?_
  exact hk20 _ _ _ _ _ _ _ _ _ hyp
set_option maxHeartbeats 4000000 in
set_option maxRecDepth 200000 in
theorem p_S_seek_116 (F : Nat) {h0 : MH} (k11 : (Option Nat) → Int32 → Int32 → Int32 → Int32 → Int32 → MH → (Option MH)) (k20 : (Option Nat) → Int32 → Int32 → Int32 → Int32 → Int32 → Int32 → MH → (Option MH)) (hk11 : ∀ (v0 : Option Nat) (v2 : Int32) (v3 : Int32) (v4 : Int32) (v5 : Int32) (v6 : Int32) (h : MH) (r : MH), k11 v0 v2 v3 v4 v5 v6 h = some r → Rt mi_S_seek 2 h0 11 [(0, va_rf v0), (2, .int v2), (3, .int v3), (4, .int v4), (5, .int v5), (6, .int v6)] [] h none r) (hk20 : ∀ (v0 : Option Nat) (v2 : Int32) (v3 : Int32) (v4 : Int32) (v5 : Int32) (v6 : Int32) (v7 : Int32) (h : MH) (r : MH), k20 v0 v2 v3 v4 v5 v6 v7 h = some r → Rt mi_S_seek 2 h0 20 [(0, va_rf v0), (2, .int v2), (3, .int v3), (4, .int v4), (5, .int v5), (6, .int v6), (7, .int v7)] [] h none r) (v0 : Option Nat) (v2 : Int32) (v3 : Int32) (v6 : Int32) (v7 : Int32) (v8 : Int32) (s0 : Int32) (h : MH) (r : MH) : b_S_seek_116 F k11 k20  v0 v2 v3 v6 v7 v8 s0 h = some r → Rt mi_S_seek 2 h0 116 [(0, va_rf v0), (2, .int v2), (3, .int v3), (6, .int v6), (7, .int v7), (8, .int v8)] [.int s0] h none r := by
  intro hyp
  unfold b_S_seek_116 at hyp
  obtain ⟨x1, e2, hyp⟩ := Option.bind_eq_some_iff.mp hyp
  obtain ⟨x3, e4, hyp⟩ := Option.bind_eq_some_iff.mp hyp
  refine rt_st (pc1 := 129) (fun _ _ B => go_istore (lv1 := [(5, .int s0), (0, va_rf v0), (2, .int v2), (3, .int v3), (6, .int v6), (7, .int v7), (8, .int v8)]) d_S_seek_116 (by decide) rfl (go_aload_n 1 d_S_seek_118 rfl (go_gfr d_S_seek_119 fd_6_1 w161 e2 (go_iload 6 d_S_seek_122 rfl (go_callSN1 (st := []) [va_rf x1, .int v8] (t_C_at x1 v8 h _ e4) mm_C_at (by decide) d_S_seek_124 w724 w343 rfl (Nat.le_of_ble_eq_true rfl) rfl (go_istore (lv1 := [(4, .int x3), (5, .int s0), (0, va_rf v0), (2, .int v2), (3, .int v3), (6, .int v6), (7, .int v7), (8, .int v8)]) d_S_seek_127 (by decide) rfl B)))))) ?_
  refine rt_sub [2, 3, 4, 0, 1, 5, 6] (lv1 := [(0, va_rf v0), (2, .int v2), (3, .int v3), (4, .int x3), (5, .int s0), (6, .int v6), (7, .int v7)]) rfl ?_
  exact p_S_seek_129 F k11 k20 hk11 hk20 _ _ _ _ _ _ _ _ r hyp
set_option maxHeartbeats 4000000 in
set_option maxRecDepth 200000 in
theorem p_S_seek_83 (F : Nat) {h0 : MH} (k11 : (Option Nat) → Int32 → Int32 → Int32 → Int32 → Int32 → MH → (Option MH)) (k20 : (Option Nat) → Int32 → Int32 → Int32 → Int32 → Int32 → Int32 → MH → (Option MH)) (hk11 : ∀ (v0 : Option Nat) (v2 : Int32) (v3 : Int32) (v4 : Int32) (v5 : Int32) (v6 : Int32) (h : MH) (r : MH), k11 v0 v2 v3 v4 v5 v6 h = some r → Rt mi_S_seek 2 h0 11 [(0, va_rf v0), (2, .int v2), (3, .int v3), (4, .int v4), (5, .int v5), (6, .int v6)] [] h none r) (hk20 : ∀ (v0 : Option Nat) (v2 : Int32) (v3 : Int32) (v4 : Int32) (v5 : Int32) (v6 : Int32) (v7 : Int32) (h : MH) (r : MH), k20 v0 v2 v3 v4 v5 v6 v7 h = some r → Rt mi_S_seek 2 h0 20 [(0, va_rf v0), (2, .int v2), (3, .int v3), (4, .int v4), (5, .int v5), (6, .int v6), (7, .int v7)] [] h none r) (v0 : Option Nat) (v2 : Int32) (v3 : Int32) (v5 : Int32) (v6 : Int32) (v7 : Int32) (v8 : Int32) (s0 : Int32) (h : MH) (r : MH) : b_S_seek_83 F k11 k20  v0 v2 v3 v5 v6 v7 v8 s0 h = some r → Rt mi_S_seek 2 h0 83 [(0, va_rf v0), (2, .int v2), (3, .int v3), (5, .int v5), (6, .int v6), (7, .int v7), (8, .int v8)] [.int s0] h none r := by
  intro hyp
  unfold b_S_seek_83 at hyp
  refine rt_st (pc1 := 87) (fun _ _ B => go_istore (lv1 := [(9, .int s0), (0, va_rf v0), (2, .int v2), (3, .int v3), (5, .int v5), (6, .int v6), (7, .int v7), (8, .int v8)]) d_S_seek_83 (by decide) rfl (go_iload 0 d_S_seek_85 rfl B)) ?_
  by_cases c1 : s0 = 0
  · replace hyp := (if_pos c1).symm.trans hyp
    obtain ⟨x2, e3, hyp⟩ := Option.bind_eq_some_iff.mp hyp
    obtain ⟨x4, e5, hyp⟩ := Option.bind_eq_some_iff.mp hyp
    refine rt_st (pc1 := 116) (fun _ _ B => go_if_eq_t 107 d_S_seek_87 rfl c1 (go_aload_n 1 d_S_seek_107 rfl (go_gfr d_S_seek_108 fd_6_2 w162 e3 (go_iload 7 d_S_seek_111 rfl (go_callSN1 (st := []) [va_rf x2, .int v8] (t_C_at x2 v8 h _ e5) mm_C_at (by decide) d_S_seek_113 w724 w343 rfl (Nat.le_of_ble_eq_true rfl) rfl B))))) ?_
    refine rt_sub [1, 2, 3, 5, 6, 7] (lv1 := [(0, va_rf v0), (2, .int v2), (3, .int v3), (6, .int v6), (7, .int v7), (8, .int v8)]) rfl ?_
    exact p_S_seek_116 F k11 k20 hk11 hk20 _ _ _ _ _ _ _ _ r hyp
  · replace hyp := (if_neg c1).symm.trans hyp
    obtain ⟨x6, e7, hyp⟩ := Option.bind_eq_some_iff.mp hyp
    obtain ⟨x8, e9, hyp⟩ := Option.bind_eq_some_iff.mp hyp
    refine rt_st (pc1 := 116) (fun _ _ B => go_if_eq_f d_S_seek_87 rfl c1 (go_iload 4 d_S_seek_90 rfl (go_aload_n 1 d_S_seek_92 rfl (go_gfr d_S_seek_93 fd_6_2 w162 e7 (go_iload 7 d_S_seek_96 rfl (go_callSN1 (st := [.int v5]) [va_rf x6, .int v8] (t_C_at x6 v8 h _ e9) mm_C_at (by decide) d_S_seek_98 w724 w343 rfl (Nat.le_of_ble_eq_true rfl) rfl (go_mmin (st := []) (by decide) (Nat.le_of_ble_eq_true rfl) d_S_seek_101 w758 (go_goto 116 d_S_seek_104 rfl B)))))))) ?_
    refine rt_sub [1, 2, 3, 5, 6, 7] (lv1 := [(0, va_rf v0), (2, .int v2), (3, .int v3), (6, .int v6), (7, .int v7), (8, .int v8)]) rfl ?_
    exact p_S_seek_116 F k11 k20 hk11 hk20 _ _ _ _ _ _ _ _ r hyp
set_option maxHeartbeats 4000000 in
set_option maxRecDepth 200000 in
theorem p_S_seek_20 (F : Nat) {h0 : MH} (k11 : (Option Nat) → Int32 → Int32 → Int32 → Int32 → Int32 → MH → (Option MH)) (hk11 : ∀ (v0 : Option Nat) (v2 : Int32) (v3 : Int32) (v4 : Int32) (v5 : Int32) (v6 : Int32) (h : MH) (r : MH), k11 v0 v2 v3 v4 v5 v6 h = some r → Rt mi_S_seek 2 h0 11 [(0, va_rf v0), (2, .int v2), (3, .int v3), (4, .int v4), (5, .int v5), (6, .int v6)] [] h none r) : ∀ (n : Nat) (v0 : Option Nat) (v2 : Int32) (v3 : Int32) (v4 : Int32) (v5 : Int32) (v6 : Int32) (v7 : Int32) (h : MH) (r : MH), b_S_seek_20 F k11  n v0 v2 v3 v4 v5 v6 v7 h = some r → Rt mi_S_seek 2 h0 20 [(0, va_rf v0), (2, .int v2), (3, .int v3), (4, .int v4), (5, .int v5), (6, .int v6), (7, .int v7)] [] h none r := by
  intro n
  induction n with
  | zero =>
    intro v0 v2 v3 v4 v5 v6 v7 h r hyp
    cases hyp
  | succ n ih =>
    intro v0 v2 v3 v4 v5 v6 v7 h r hyp
    unfold b_S_seek_20 at hyp
    refine rt_st (pc1 := 23) (fun _ _ B => go_iload 6 d_S_seek_20 rfl (go_iconst (v := (3 : Int32)) d_S_seek_22 (by decide) B)) ?_
    by_cases c1 : (3 : Int32) ≤ v7
    · replace hyp := (if_pos c1).symm.trans hyp
      refine rt_st (pc1 := 11) (fun _ _ B => go_icmp_ge_t 135 d_S_seek_23 rfl c1 (go_iinc (v := (v6 + (1 : Int32))) (lv1 := [(6, .int (v6 + (1 : Int32))), (0, va_rf v0), (2, .int v2), (3, .int v3), (4, .int v4), (5, .int v5), (7, .int v7)]) 5 d_S_seek_135 rfl rfl (by decide) rfl (go_goto 11 d_S_seek_138 rfl B))) ?_
      refine rt_sub [1, 2, 3, 4, 5, 0] (lv1 := [(0, va_rf v0), (2, .int v2), (3, .int v3), (4, .int v4), (5, .int v5), (6, .int (v6 + (1 : Int32)))]) rfl ?_
      exact hk11 _ _ _ _ _ _ _ _ hyp
    · replace hyp := (if_neg c1).symm.trans hyp
      refine rt_st (pc1 := 44) (fun _ _ B => go_icmp_ge_f d_S_seek_23 rfl c1 (go_iload 5 d_S_seek_26 rfl (go_iload_n 2 d_S_seek_28 rfl (go_iload 6 d_S_seek_29 rfl (go_callS1 (st := []) [.int v6, .int v3, .int v7] (t_S_stateOf v6 v3 v7 h) mm_S_stateOf (by decide) d_S_seek_31 w709 w710 rfl (Nat.le_of_ble_eq_true rfl) rfl (go_istore (lv1 := [(8, .int (f_S_stateOf v6 v3 v7)), (0, va_rf v0), (2, .int v2), (3, .int v3), (4, .int v4), (5, .int v5), (6, .int v6), (7, .int v7)]) d_S_seek_34 (by decide) rfl (go_iload 0 d_S_seek_36 rfl (go_sipush (v := (576 : Int32)) d_S_seek_38 (by decide) (go_callSN1 (st := []) [.int (f_S_stateOf v6 v3 v7), .int (576 : Int32)] (t_C_within (f_S_stateOf v6 v3 v7) (576 : Int32) h) mm_C_within (by decide) d_S_seek_41 w757 w314 rfl (Nat.le_of_ble_eq_true rfl) rfl B))))))))) ?_
      by_cases c2 : (f_C_within (f_S_stateOf v6 v3 v7) (576 : Int32)) = 0
      · replace hyp := (if_pos c2).symm.trans hyp
        refine rt_st (pc1 := 129) (fun _ _ B => go_if_eq_t 129 d_S_seek_44 rfl c2 B) ?_
        refine rt_sub [1, 2, 3, 4, 5, 6, 7] (lv1 := [(0, va_rf v0), (2, .int v2), (3, .int v3), (4, .int v4), (5, .int v5), (6, .int v6), (7, .int v7)]) rfl ?_
        exact p_S_seek_129 F k11 (b_S_seek_20 F k11 n) hk11 (fun a0 a1 a2 a3 a4 a5 a6 a7 r hyp => ih a0 a1 a2 a3 a4 a5 a6 a7 r hyp) _ _ _ _ _ _ _ _ r hyp
      · replace hyp := (if_neg c2).symm.trans hyp
        obtain ⟨x3, e4, hyp⟩ := Option.bind_eq_some_iff.mp hyp
        obtain ⟨x5, e6, hyp⟩ := Option.bind_eq_some_iff.mp hyp
        refine rt_st (pc1 := 58) (fun _ _ B => go_if_eq_f d_S_seek_44 rfl c2 (go_aload_n 1 d_S_seek_47 rfl (go_gfr d_S_seek_48 fd_6_1 w161 e4 (go_iload 0 d_S_seek_51 rfl (go_callSN1 (st := []) [va_rf x3, .int (f_S_stateOf v6 v3 v7)] (t_C_at x3 (f_S_stateOf v6 v3 v7) h _ e6) mm_C_at (by decide) d_S_seek_53 w724 w343 rfl (Nat.le_of_ble_eq_true rfl) rfl (go_iload 4 d_S_seek_56 rfl B)))))) ?_
        by_cases c7 : x5 ≤ v4
        · replace hyp := (if_pos c7).symm.trans hyp
          obtain ⟨x8, e9, hyp⟩ := Option.bind_eq_some_iff.mp hyp
          obtain ⟨x10, e11, hyp⟩ := Option.bind_eq_some_iff.mp hyp
          refine rt_st (pc1 := 75) (fun _ _ B => go_icmp_le_t 64 d_S_seek_58 rfl c7 (go_aload_n 1 d_S_seek_64 rfl (go_gfr d_S_seek_65 fd_6_1 w161 e9 (go_iload 0 d_S_seek_68 rfl (go_callSN1 (st := []) [va_rf x8, .int (f_S_stateOf v6 v3 v7)] (t_C_at x8 (f_S_stateOf v6 v3 v7) h _ e11) mm_C_at (by decide) d_S_seek_70 w724 w343 rfl (Nat.le_of_ble_eq_true rfl) rfl (go_iload 4 d_S_seek_73 rfl B)))))) ?_
          by_cases c12 : x10 = v4
          · replace hyp := (if_pos c12).symm.trans hyp
            refine rt_st (pc1 := 83) (fun _ _ B => go_icmp_ne_f d_S_seek_75 rfl c12 (go_iconst (v := (1 : Int32)) d_S_seek_78 (by decide) (go_goto 83 d_S_seek_79 rfl B))) ?_
            refine rt_sub [1, 2, 3, 5, 6, 7, 0] (lv1 := [(0, va_rf v0), (2, .int v2), (3, .int v3), (5, .int v5), (6, .int v6), (7, .int v7), (8, .int (f_S_stateOf v6 v3 v7))]) rfl ?_
            exact p_S_seek_83 F k11 (b_S_seek_20 F k11 n) hk11 (fun a0 a1 a2 a3 a4 a5 a6 a7 r hyp => ih a0 a1 a2 a3 a4 a5 a6 a7 r hyp) _ _ _ _ _ _ _ _ _ r hyp
          · replace hyp := (if_neg c12).symm.trans hyp
            refine rt_st (pc1 := 83) (fun _ _ B => go_icmp_ne_t 82 d_S_seek_75 rfl c12 (go_iconst (v := (0 : Int32)) d_S_seek_82 (by decide) B)) ?_
            refine rt_sub [1, 2, 3, 5, 6, 7, 0] (lv1 := [(0, va_rf v0), (2, .int v2), (3, .int v3), (5, .int v5), (6, .int v6), (7, .int v7), (8, .int (f_S_stateOf v6 v3 v7))]) rfl ?_
            exact p_S_seek_83 F k11 (b_S_seek_20 F k11 n) hk11 (fun a0 a1 a2 a3 a4 a5 a6 a7 r hyp => ih a0 a1 a2 a3 a4 a5 a6 a7 r hyp) _ _ _ _ _ _ _ _ _ r hyp
        · replace hyp := (if_neg c7).symm.trans hyp
          refine rt_st (pc1 := 129) (fun _ _ B => go_icmp_le_f d_S_seek_58 rfl c7 (go_goto 129 d_S_seek_61 rfl B)) ?_
          refine rt_sub [1, 2, 3, 4, 5, 6, 7] (lv1 := [(0, va_rf v0), (2, .int v2), (3, .int v3), (4, .int v4), (5, .int v5), (6, .int v6), (7, .int v7)]) rfl ?_
          exact p_S_seek_129 F k11 (b_S_seek_20 F k11 n) hk11 (fun a0 a1 a2 a3 a4 a5 a6 a7 r hyp => ih a0 a1 a2 a3 a4 a5 a6 a7 r hyp) _ _ _ _ _ _ _ _ r hyp
set_option maxHeartbeats 4000000 in
set_option maxRecDepth 200000 in
theorem p_S_seek_11 (F : Nat) {h0 : MH} : ∀ (n : Nat) (v0 : Option Nat) (v2 : Int32) (v3 : Int32) (v4 : Int32) (v5 : Int32) (v6 : Int32) (h : MH) (r : MH), b_S_seek_11 F  n v0 v2 v3 v4 v5 v6 h = some r → Rt mi_S_seek 2 h0 11 [(0, va_rf v0), (2, .int v2), (3, .int v3), (4, .int v4), (5, .int v5), (6, .int v6)] [] h none r := by
  intro n
  induction n with
  | zero =>
    intro v0 v2 v3 v4 v5 v6 h r hyp
    cases hyp
  | succ n ih =>
    intro v0 v2 v3 v4 v5 v6 h r hyp
    unfold b_S_seek_11 at hyp
    refine rt_st (pc1 := 14) (fun _ _ B => go_iload 5 d_S_seek_11 rfl (go_iload_n 1 d_S_seek_13 rfl B)) ?_
    by_cases c1 : v2 < v6
    · replace hyp := (if_pos c1).symm.trans hyp
      refine rt_st (pc1 := 146) (fun _ _ B => go_icmp_gt_t 141 d_S_seek_14 rfl c1 (go_aload_n 0 d_S_seek_141 rfl (go_iload 3 d_S_seek_142 rfl (go_ldc (v := (1000000 : Int32)) d_S_seek_144 w712 B)))) ?_
      by_cases c2 : v4 = (1000000 : Int32)
      · replace hyp := (if_pos c2).symm.trans hyp
        refine rt_st (pc1 := 156) (fun _ _ B => go_icmp_ne_f d_S_seek_146 rfl c2 (go_ldc (v := (-1000000 : Int32)) d_S_seek_149 w720 (go_goto 156 d_S_seek_151 rfl B))) ?_
        refine rt_sub [0, 3, 4] (lv1 := [(0, va_rf v0), (4, .int v4), (5, .int v5)]) rfl ?_
        exact p_S_seek_156 F _ _ _ _ _ _ r hyp
      · replace hyp := (if_neg c2).symm.trans hyp
        refine rt_st (pc1 := 156) (fun _ _ B => go_icmp_ne_t 154 d_S_seek_146 rfl c2 (go_iload 3 d_S_seek_154 rfl B)) ?_
        refine rt_sub [0, 3, 4] (lv1 := [(0, va_rf v0), (4, .int v4), (5, .int v5)]) rfl ?_
        exact p_S_seek_156 F _ _ _ _ _ _ r hyp
    · replace hyp := (if_neg c1).symm.trans hyp
      refine rt_st (pc1 := 20) (fun _ _ B => go_icmp_gt_f d_S_seek_14 rfl c1 (go_iconst (v := (0 : Int32)) d_S_seek_17 (by decide) (go_istore (lv1 := [(7, .int (0 : Int32)), (0, va_rf v0), (2, .int v2), (3, .int v3), (4, .int v4), (5, .int v5), (6, .int v6)]) d_S_seek_18 (by decide) rfl B))) ?_
      refine rt_sub [1, 2, 3, 4, 5, 6, 0] (lv1 := [(0, va_rf v0), (2, .int v2), (3, .int v3), (4, .int v4), (5, .int v5), (6, .int v6), (7, .int (0 : Int32))]) rfl ?_
      exact p_S_seek_20 F (b_S_seek_11 F n) (fun a0 a1 a2 a3 a4 a5 a6 r hyp => ih a0 a1 a2 a3 a4 a5 a6 r hyp) F _ _ _ _ _ _ _ _ r hyp
set_option maxHeartbeats 4000000 in
set_option maxRecDepth 200000 in
theorem t_S_seek (F : Nat) (v0 : Option Nat) (v1 : Int32) (v2 : Int32) (v3 : Int32) (h : MH) (r : MH) (hyp : f_S_seek F v0 v1 v2 v3 h = some r) : Mt mi_S_seek 2 [va_rf v0, .int v1, .int v2, .int v3] h none r := by
  refine Mt.rt (lv := [(0, va_rf v0), (1, .int v1), (2, .int v2), (3, .int v3)]) (by decide +kernel) (by simp [lv_args, mj_rfc, mj_cti, mj_ctl]) (by simp [mj_rfc, mj_cti, mj_ctl]) ?_
  unfold f_S_seek at hyp
  refine rt_st (pc1 := 11) (fun _ _ B => go_ldc (v := (1000000 : Int32)) d_S_seek_0 w712 (go_istore (lv1 := [(4, .int (1000000 : Int32)), (0, va_rf v0), (1, .int v1), (2, .int v2), (3, .int v3)]) d_S_seek_2 (by decide) rfl (go_ldc (v := (-1000000 : Int32)) d_S_seek_4 w720 (go_istore (lv1 := [(5, .int (-1000000 : Int32)), (4, .int (1000000 : Int32)), (0, va_rf v0), (1, .int v1), (2, .int v2), (3, .int v3)]) d_S_seek_6 (by decide) rfl (go_iload_n 3 d_S_seek_8 rfl (go_istore (lv1 := [(6, .int v1), (5, .int (-1000000 : Int32)), (4, .int (1000000 : Int32)), (0, va_rf v0), (1, .int v1), (2, .int v2), (3, .int v3)]) d_S_seek_9 (by decide) rfl B)))))) ?_
  refine rt_sub [3, 5, 6, 2, 1, 0] (lv1 := [(0, va_rf v0), (2, .int v2), (3, .int v3), (4, .int (1000000 : Int32)), (5, .int (-1000000 : Int32)), (6, .int v1)]) rfl ?_
  exact p_S_seek_11 F F _ _ _ _ _ _ _ r hyp
/-! WideTurn.Search.minutesToTurn(LWideTurn.Basin;I)I -/
def f_S_minutesToTurn (F : Nat) (v0 : Option Nat) (v1 : Option Nat) (v2 : Int32) (h : MH) : Option (Int32 × MH) :=
  Option.bind (gfi h v1 [1] 4) fun x1 =>
  Option.bind (onc h v0 6 (f_S_explore F v0 v1 v2 ((x1 + (4 : Int32)) &&& (7 : Int32)) h)) fun h3 =>
  Option.bind (onc h3 v0 6 (f_S_seek F v0 (0 : Int32) (23 : Int32) ((x1 + (4 : Int32)) &&& (7 : Int32)) h3)) fun h5 =>
  Option.bind (gfi h5 v0 [6] 12) fun x7 =>
  some (x7, h5)
set_option maxHeartbeats 4000000 in
set_option maxRecDepth 200000 in
theorem t_S_minutesToTurn (F : Nat) (v0 : Option Nat) (v1 : Option Nat) (v2 : Int32) (h : MH) (r : (Int32 × MH)) (hyp : f_S_minutesToTurn F v0 v1 v2 h = some r) : Mt mi_S_minutesToTurn 5 [va_rf v0, va_rf v1, .int v2] h (some (.int r.1)) r.2 := by
  refine Mt.rt (lv := [(0, va_rf v0), (1, va_rf v1), (2, .int v2)]) (by decide +kernel) (by simp [lv_args, mj_rfc, mj_cti, mj_ctl]) (by simp [mj_rfc, mj_cti, mj_ctl]) ?_
  unfold f_S_minutesToTurn at hyp
  obtain ⟨x1, e2, hyp⟩ := Option.bind_eq_some_iff.mp hyp
  obtain ⟨h3, e4, hyp⟩ := Option.bind_eq_some_iff.mp hyp
  obtain ⟨h5, e6, hyp⟩ := Option.bind_eq_some_iff.mp hyp
  obtain ⟨x7, e8, hyp⟩ := Option.bind_eq_some_iff.mp hyp
  refine rt_st (pc1 := 29) (fun _ _ B => go_aload_n 1 d_S_minutesToTurn_0 rfl (go_gfi d_S_minutesToTurn_1 fd_1_4 w227 e2 (go_iconst (v := (4 : Int32)) d_S_minutesToTurn_4 (by decide) (go_iadd d_S_minutesToTurn_5 (go_bipush (v := (7 : Int32)) d_S_minutesToTurn_6 (by decide) (go_iand d_S_minutesToTurn_8 (go_istore_n (lv1 := [(3, .int ((x1 + (4 : Int32)) &&& (7 : Int32))), (0, va_rf v0), (1, va_rf v1), (2, .int v2)]) d_S_minutesToTurn_9 (by decide) rfl (go_aload_n 1 d_S_minutesToTurn_10 rfl (go_aload_n 2 d_S_minutesToTurn_11 rfl (go_iload_n 3 d_S_minutesToTurn_12 rfl (go_iload_n 0 d_S_minutesToTurn_13 rfl (go_callV0 (q := q_6) (st := []) [va_rf v1, .int v2, .int ((x1 + (4 : Int32)) &&& (7 : Int32))] (t_S_explore F v0 v1 v2 ((x1 + (4 : Int32)) &&& (7 : Int32)) h _ (onc_spec e4).2) mm_S_explore (by decide) d_S_minutesToTurn_14 (onc_spec e4).1 rfl rfl w767 w701 w702 rfl (Nat.le_of_ble_eq_true rfl) rfl (go_aload_n 1 d_S_minutesToTurn_17 rfl (go_iconst (v := (0 : Int32)) d_S_minutesToTurn_18 (by decide) (go_bipush (v := (23 : Int32)) d_S_minutesToTurn_19 (by decide) (go_iload_n 0 d_S_minutesToTurn_21 rfl (go_callV0 (q := q_6) (st := []) [.int (0 : Int32), .int (23 : Int32), .int ((x1 + (4 : Int32)) &&& (7 : Int32))] (t_S_seek F v0 (0 : Int32) (23 : Int32) ((x1 + (4 : Int32)) &&& (7 : Int32)) h3 _ (onc_spec e6).2) mm_S_seek (by decide) d_S_minutesToTurn_22 (onc_spec e6).1 rfl rfl w768 w754 w755 rfl (Nat.le_of_ble_eq_true rfl) rfl (go_aload_n 1 d_S_minutesToTurn_25 rfl (go_gfi d_S_minutesToTurn_26 fd_6_12 w172 e8 B))))))))))))))))))) ?_
  exact rt_eqW Value.int hyp (rt_int d_S_minutesToTurn_29 rfl)
/-! WideTurn.Search.cellsReached()I -/
def b_S_cellsReached_33 (F : Nat) (h : MH) (k4 : (Option Nat) → Int32 → Int32 → (Option (Int32))) : (Option Nat) → (Int32) → (Int32) → (Option (Int32)) := fun v0 v1 v2 => 
  k4 v0 v1 (v2 + (1 : Int32))
def b_S_cellsReached_4 (F : Nat) (h : MH) : Nat → (Option Nat) → (Int32) → (Int32) → (Option (Int32))
  | 0 => fun _ _ _ => none
  | n + 1 => fun v0 v1 v2 => 
    if (576 : Int32) ≤ v2 then
      some v1
    else
      Option.bind (gfr h v0 [6] 1) fun x2 =>
      Option.bind (f_C_at x2 v2 h) fun x4 =>
      if x4 = (1000000 : Int32) then
        b_S_cellsReached_33 F h (b_S_cellsReached_4 F h n) v0 v1 v2
      else
        b_S_cellsReached_33 F h (b_S_cellsReached_4 F h n) v0 (v1 ||| ((1 : Int32) <<< ((v2 / (24 : Int32)) &&& 31))) v2
def f_S_cellsReached (F : Nat) (v0 : Option Nat) (h : MH) : Option (Int32) :=
  b_S_cellsReached_4 F h F v0 (0 : Int32) (0 : Int32)
set_option maxHeartbeats 4000000 in
set_option maxRecDepth 200000 in
theorem p_S_cellsReached_33 (F : Nat) (h : MH) {h0 : MH} (k4 : (Option Nat) → Int32 → Int32 → (Option (Int32))) (hk4 : ∀ (v0 : Option Nat) (v1 : Int32) (v2 : Int32) (r : (Int32)), k4 v0 v1 v2 = some r → Rt mi_S_cellsReached 2 h0 4 [(0, va_rf v0), (1, .int v1), (2, .int v2)] [] h (some (.int r)) h) (v0 : Option Nat) (v1 : Int32) (v2 : Int32) (r : (Int32)) : b_S_cellsReached_33 F h k4  v0 v1 v2 = some r → Rt mi_S_cellsReached 2 h0 33 [(0, va_rf v0), (1, .int v1), (2, .int v2)] [] h (some (.int r)) h := by
  intro hyp
  unfold b_S_cellsReached_33 at hyp
  refine rt_st (pc1 := 4) (fun _ _ B => go_iinc (v := (v2 + (1 : Int32))) (lv1 := [(2, .int (v2 + (1 : Int32))), (0, va_rf v0), (1, .int v1)]) 2 d_S_cellsReached_33 rfl rfl (by decide) rfl (go_goto 4 d_S_cellsReached_36 rfl B)) ?_
  refine rt_sub [1, 2, 0] (lv1 := [(0, va_rf v0), (1, .int v1), (2, .int (v2 + (1 : Int32)))]) rfl ?_
  exact hk4 _ _ _ _ hyp
set_option maxHeartbeats 4000000 in
set_option maxRecDepth 200000 in
theorem p_S_cellsReached_4 (F : Nat) (h : MH) {h0 : MH} : ∀ (n : Nat) (v0 : Option Nat) (v1 : Int32) (v2 : Int32) (r : (Int32)), b_S_cellsReached_4 F h  n v0 v1 v2 = some r → Rt mi_S_cellsReached 2 h0 4 [(0, va_rf v0), (1, .int v1), (2, .int v2)] [] h (some (.int r)) h := by
  intro n
  induction n with
  | zero =>
    intro v0 v1 v2 r hyp
    cases hyp
  | succ n ih =>
    intro v0 v1 v2 r hyp
    unfold b_S_cellsReached_4 at hyp
    refine rt_st (pc1 := 8) (fun _ _ B => go_iload_n 2 d_S_cellsReached_4 rfl (go_sipush (v := (576 : Int32)) d_S_cellsReached_5 (by decide) B)) ?_
    by_cases c1 : (576 : Int32) ≤ v2
    · replace hyp := (if_pos c1).symm.trans hyp
      refine rt_st (pc1 := 40) (fun _ _ B => go_icmp_ge_t 39 d_S_cellsReached_8 rfl c1 (go_iload_n 1 d_S_cellsReached_39 rfl B)) ?_
      exact rt_eqR Value.int hyp (rt_int d_S_cellsReached_40 rfl)
    · replace hyp := (if_neg c1).symm.trans hyp
      obtain ⟨x2, e3, hyp⟩ := Option.bind_eq_some_iff.mp hyp
      obtain ⟨x4, e5, hyp⟩ := Option.bind_eq_some_iff.mp hyp
      refine rt_st (pc1 := 21) (fun _ _ B => go_icmp_ge_f d_S_cellsReached_8 rfl c1 (go_aload_n 0 d_S_cellsReached_11 rfl (go_gfr d_S_cellsReached_12 fd_6_1 w161 e3 (go_iload_n 2 d_S_cellsReached_15 rfl (go_callSN1 (st := []) [va_rf x2, .int v2] (t_C_at x2 v2 h _ e5) mm_C_at (by decide) d_S_cellsReached_16 w724 w343 rfl (Nat.le_of_ble_eq_true rfl) rfl (go_ldc (v := (1000000 : Int32)) d_S_cellsReached_19 w712 B)))))) ?_
      by_cases c6 : x4 = (1000000 : Int32)
      · replace hyp := (if_pos c6).symm.trans hyp
        refine rt_st (pc1 := 33) (fun _ _ B => go_icmp_eq_t 33 d_S_cellsReached_21 rfl c6 B) ?_
        exact p_S_cellsReached_33 F h (b_S_cellsReached_4 F h n) (fun a0 a1 a2 r hyp => ih a0 a1 a2 r hyp) _ _ _ r hyp
      · replace hyp := (if_neg c6).symm.trans hyp
        refine rt_st (pc1 := 33) (fun _ _ B => go_icmp_eq_f d_S_cellsReached_21 rfl c6 (go_iload_n 1 d_S_cellsReached_24 rfl (go_iconst (v := (1 : Int32)) d_S_cellsReached_25 (by decide) (go_iload_n 2 d_S_cellsReached_26 rfl (go_bipush (v := (24 : Int32)) d_S_cellsReached_27 (by decide) (go_idiv d_S_cellsReached_29 (by decide) (go_ishl d_S_cellsReached_30 (go_ior d_S_cellsReached_31 (go_istore_n (lv1 := [(1, .int (v1 ||| ((1 : Int32) <<< ((v2 / (24 : Int32)) &&& 31)))), (0, va_rf v0), (2, .int v2)]) d_S_cellsReached_32 (by decide) (by first | (simp [mj_s1, mj_s2, mj_rfc, mj_cti, mj_ctl]; done) | (simp [mj_s1, mj_s2, mj_rfc, mj_cti, mj_ctl]; decide)) B))))))))) ?_
        refine rt_sub [1, 0, 2] (lv1 := [(0, va_rf v0), (1, .int (v1 ||| ((1 : Int32) <<< ((v2 / (24 : Int32)) &&& 31)))), (2, .int v2)]) rfl ?_
        exact p_S_cellsReached_33 F h (b_S_cellsReached_4 F h n) (fun a0 a1 a2 r hyp => ih a0 a1 a2 r hyp) _ _ _ r hyp
set_option maxHeartbeats 4000000 in
set_option maxRecDepth 200000 in
theorem t_S_cellsReached (F : Nat) (v0 : Option Nat) (h : MH) (r : (Int32)) (hyp : f_S_cellsReached F v0 h = some r) : Mt mi_S_cellsReached 2 [va_rf v0] h (some (.int r)) h := by
  refine Mt.rt (lv := [(0, va_rf v0)]) (by decide +kernel) (by simp [lv_args, mj_rfc, mj_cti, mj_ctl]) (by simp [mj_rfc, mj_cti, mj_ctl]) ?_
  unfold f_S_cellsReached at hyp
  refine rt_st (pc1 := 4) (fun _ _ B => go_iconst (v := (0 : Int32)) d_S_cellsReached_0 (by decide) (go_istore_n (lv1 := [(1, .int (0 : Int32)), (0, va_rf v0)]) d_S_cellsReached_1 (by decide) (by first | (simp [mj_s1, mj_s2, mj_rfc, mj_cti, mj_ctl]; done) | (simp [mj_s1, mj_s2, mj_rfc, mj_cti, mj_ctl]; decide)) (go_iconst (v := (0 : Int32)) d_S_cellsReached_2 (by decide) (go_istore_n (lv1 := [(2, .int (0 : Int32)), (1, .int (0 : Int32)), (0, va_rf v0)]) d_S_cellsReached_3 (by decide) rfl B)))) ?_
  refine rt_sub [2, 1, 0] (lv1 := [(0, va_rf v0), (1, .int (0 : Int32)), (2, .int (0 : Int32))]) rfl ?_
  exact p_S_cellsReached_4 F h F _ _ _ r hyp
/-! WideTurn.Shover.sort()I -/
def f_Sh_sort (v0 : Option Nat) : Int32 :=
  (4 : Int32)
set_option maxHeartbeats 4000000 in
set_option maxRecDepth 200000 in
theorem t_Sh_sort (v0 : Option Nat) (h : MH) : Mt mi_Sh_sort 1 [va_rf v0] h (some (.int (f_Sh_sort v0))) h := by
  refine Mt.rt (lv := [(0, va_rf v0)]) (by decide +kernel) (by simp [lv_args, mj_rfc, mj_cti, mj_ctl]) (by simp [mj_rfc, mj_cti, mj_ctl]) ?_
  unfold f_Sh_sort
  refine rt_st (pc1 := 1) (fun _ _ B => go_iconst (v := (4 : Int32)) d_Sh_sort_0 (by decide) B) ?_
  exact rt_int d_Sh_sort_1 rfl
/-! WideTurn.Shover.mark([II)I -/
def v_Sh_size (o : Option Nat) (a0 : Option Nat) (a1 : Int32) (h : MH) : Option (Int32 × MH) :=
  if cls h o = some 2 then f_Lf_size o a0 a1 h else
  if cls h o = some 7 then f_Sh_size o a0 a1 h else
  none
def f_Sh_mark (v0 : Option Nat) (v1 : Option Nat) (v2 : Int32) (h : MH) : Option (Int32 × MH) :=
  Option.bind (f_H_leave v1 (23 : Int32) h) fun h1 =>
  Option.bind (f_H_mark v0 v1 v2 h1) fun x3 =>
  Option.bind (cls h1 v0) fun x5 =>
  Option.bind (mj_hand x5) fun _ =>
  Option.bind (v_Sh_size v0 v1 v2 x3.2) fun x8 =>
  some ((x3.1 - x8.1), x8.2)
set_option maxHeartbeats 4000000 in
set_option maxRecDepth 200000 in
theorem vs_Sh_mark_17 {h0 : MH} (h : MH) {o : Option Nat} {a0 : Option Nat} {a1 : Int32} {pc2 : Nat} {lv lv2 : List (Nat × Value)} {st st2 : List Value} {h2 : MH} {x : Int32 × MH} (e : v_Sh_size o a0 a1 h = some x) (hst : st.length ≤ 4) (B : Go mi_Sh_mark 5 h0 (17 + 3) lv (.int x.1 :: st) x.2 pc2 lv2 st2 h2) : Go mi_Sh_mark 5 h0 17 lv (.int a1 :: va_rf a0 :: va_rf o :: st) h pc2 lv2 st2 h2 := by
  unfold v_Sh_size at e
  by_cases c2 : cls h o = some 2
  · replace e := (if_pos c2).symm.trans e
    exact go_callU1 (q := q_2) [va_rf a0, .int a1] (t_Lf_size o a0 a1 h _ e) mm_Lf_size (by decide) d_Sh_mark_17 c2 rfl w966 w1377 (Or.inl ⟨_, _, _, w923, w924⟩) (by decide +kernel) w1381 w916 rfl hst rfl B
  replace e := (if_neg c2).symm.trans e
  by_cases c7 : cls h o = some 7
  · replace e := (if_pos c7).symm.trans e
    exact go_callU1 (q := q_7) [va_rf a0, .int a1] (t_Sh_size o a0 a1 h _ e) mm_Sh_size (by decide) d_Sh_mark_17 c7 rfl w966 w1377 (Or.inl ⟨_, _, _, w923, w924⟩) (by decide +kernel) w1382 w923 rfl hst rfl B
  replace e := (if_neg c7).symm.trans e
  cases e
set_option maxHeartbeats 4000000 in
set_option maxRecDepth 200000 in
theorem t_Sh_mark (v0 : Option Nat) (v1 : Option Nat) (v2 : Int32) (h : MH) (r : (Int32 × MH)) (hyp : f_Sh_mark v0 v1 v2 h = some r) : Mt mi_Sh_mark 5 [va_rf v0, va_rf v1, .int v2] h (some (.int r.1)) r.2 := by
  refine Mt.rt (lv := [(0, va_rf v0), (1, va_rf v1), (2, .int v2)]) (by decide +kernel) (by simp [lv_args, mj_rfc, mj_cti, mj_ctl]) (by simp [mj_rfc, mj_cti, mj_ctl]) ?_
  unfold f_Sh_mark at hyp
  obtain ⟨h1, e2, hyp⟩ := Option.bind_eq_some_iff.mp hyp
  obtain ⟨x3, e4, hyp⟩ := Option.bind_eq_some_iff.mp hyp
  obtain ⟨x5, e6, hyp⟩ := Option.bind_eq_some_iff.mp hyp
  obtain ⟨_, e7, hyp⟩ := Option.bind_eq_some_iff.mp hyp
  obtain ⟨x8, e9, hyp⟩ := Option.bind_eq_some_iff.mp hyp
  refine rt_st (pc1 := 21) (fun _ _ B => go_aload_n 1 d_Sh_mark_0 rfl (go_bipush (v := (23 : Int32)) d_Sh_mark_1 (by decide) (go_callSUp0 (st := []) [va_rf v1, .int (23 : Int32)] (t_H_leave v1 (23 : Int32) h _ e2) mm_H_leave (by decide) d_Sh_mark_3 w925 w926 w_leS (by decide) rfl (Nat.le_of_ble_eq_true rfl) rfl (go_aload_n 0 d_Sh_mark_6 rfl (go_aload_n 1 d_Sh_mark_7 rfl (go_iload_n 2 d_Sh_mark_8 rfl (go_callSUh1 (st := []) [va_rf v1, .int v2] (t_H_mark v0 v1 v2 h1 _ e4) mm_H_mark (by decide) d_Sh_mark_9 e6 (mj_hand_spec e7) w965 w1379 w505 w955 (by decide) rfl (Nat.le_of_ble_eq_true rfl) rfl (go_istore_n (lv1 := [(3, .int x3.1), (0, va_rf v0), (1, va_rf v1), (2, .int v2)]) d_Sh_mark_12 (by decide) rfl (go_iload_n 0 d_Sh_mark_13 rfl (go_aload_n 1 d_Sh_mark_14 rfl (go_aload_n 2 d_Sh_mark_15 rfl (go_iload_n 3 d_Sh_mark_16 rfl (vs_Sh_mark_17 x3.2 (st := [.int x3.1]) e9 (Nat.le_of_ble_eq_true rfl) (go_isub d_Sh_mark_20 B)))))))))))))) ?_
  exact rt_eqW Value.int hyp (rt_int d_Sh_mark_21 rfl)
/-! WideTurn.Swinger.sort()I -/
def f_Sw_sort (v0 : Option Nat) : Int32 :=
  (1 : Int32)
set_option maxHeartbeats 4000000 in
set_option maxRecDepth 200000 in
theorem t_Sw_sort (v0 : Option Nat) (h : MH) : Mt mi_Sw_sort 1 [va_rf v0] h (some (.int (f_Sw_sort v0))) h := by
  refine Mt.rt (lv := [(0, va_rf v0)]) (by decide +kernel) (by simp [lv_args, mj_rfc, mj_cti, mj_ctl]) (by simp [mj_rfc, mj_cti, mj_ctl]) ?_
  unfold f_Sw_sort
  refine rt_st (pc1 := 1) (fun _ _ B => go_iconst (v := (1 : Int32)) d_Sw_sort_0 (by decide) B) ?_
  exact rt_int d_Sw_sort_1 rfl
/-! WideTurn.Tape.<init>()V -/
def f_T_init (v0 : Option Nat) (h : MH) : Option MH :=
  Option.bind v0 fun t0 =>
  Option.bind (newA h 0 120) fun h2 =>
  Option.bind (pfv h2 v0 [9] 0 (va_rf (some h.2.1))) fun h4 =>
  some h4
set_option maxHeartbeats 4000000 in
set_option maxRecDepth 200000 in
theorem t_T_init (v0 : Option Nat) (h : MH) (r : MH) (hyp : f_T_init v0 h = some r) : Mt mi_T_init 2 [va_rf v0] h none r := by
  refine Mt.rt (lv := [(0, va_rf v0)]) (by decide +kernel) (by simp [lv_args, mj_rfc, mj_cti, mj_ctl]) (by simp [mj_rfc, mj_cti, mj_ctl]) ?_
  unfold f_T_init at hyp
  obtain ⟨t0, hthis, hyp⟩ := Option.bind_eq_some_iff.mp hyp
  obtain ⟨h2, e3, hyp⟩ := Option.bind_eq_some_iff.mp hyp
  obtain ⟨h4, e5, hyp⟩ := Option.bind_eq_some_iff.mp hyp
  refine rt_st (pc1 := 12) (fun _ _ B => go_aload_n 0 d_T_init_0 rfl (go_objI (st := []) (mj_some hthis) (by decide) d_T_init_1 w103 w_objI w_objC (Nat.le_of_ble_eq_true rfl) (go_aload_n 0 d_T_init_4 rfl (go_bipush (v := (120 : Int32)) d_T_init_5 (by decide) (go_newA (by decide) rfl d_T_init_7 w_arr0 (by decide) (by decide) (by decide) e3 (go_pfr (ty := (.array .int)) d_T_init_9 fd_9_0 w104 (fun _ => ⟨rfl, rfl⟩) (by decide +kernel) rfl e5 B)))))) ?_
  exact rt_eq0 hyp (rt_void d_T_init_12 rfl)
/-! WideTurn.Tape.length()I -/
def f_T_length (v0 : Option Nat) (h : MH) : Option (Int32) :=
  Option.bind (gfi h v0 [9] 1) fun x1 =>
  some x1
set_option maxHeartbeats 4000000 in
set_option maxRecDepth 200000 in
theorem t_T_length (v0 : Option Nat) (h : MH) (r : (Int32)) (hyp : f_T_length v0 h = some r) : Mt mi_T_length 1 [va_rf v0] h (some (.int r)) h := by
  refine Mt.rt (lv := [(0, va_rf v0)]) (by decide +kernel) (by simp [lv_args, mj_rfc, mj_cti, mj_ctl]) (by simp [mj_rfc, mj_cti, mj_ctl]) ?_
  unfold f_T_length at hyp
  obtain ⟨x1, e2, hyp⟩ := Option.bind_eq_some_iff.mp hyp
  refine rt_st (pc1 := 4) (fun _ _ B => go_aload_n 0 d_T_length_0 rfl (go_gfi d_T_length_1 fd_9_1 w105 e2 B)) ?_
  exact rt_eqR Value.int hyp (rt_int d_T_length_4 rfl)
/-! WideTurn.Tape.faultPlace()I -/
def f_T_faultPlace (v0 : Option Nat) (h : MH) : Option (Int32) :=
  Option.bind (gfi h v0 [9] 4) fun x1 =>
  some x1
set_option maxHeartbeats 4000000 in
set_option maxRecDepth 200000 in
theorem t_T_faultPlace (v0 : Option Nat) (h : MH) (r : (Int32)) (hyp : f_T_faultPlace v0 h = some r) : Mt mi_T_faultPlace 1 [va_rf v0] h (some (.int r)) h := by
  refine Mt.rt (lv := [(0, va_rf v0)]) (by decide +kernel) (by simp [lv_args, mj_rfc, mj_cti, mj_ctl]) (by simp [mj_rfc, mj_cti, mj_ctl]) ?_
  unfold f_T_faultPlace at hyp
  obtain ⟨x1, e2, hyp⟩ := Option.bind_eq_some_iff.mp hyp
  refine rt_st (pc1 := 4) (fun _ _ B => go_aload_n 0 d_T_faultPlace_0 rfl (go_gfi d_T_faultPlace_1 fd_9_4 w108 e2 B)) ?_
  exact rt_eqR Value.int hyp (rt_int d_T_faultPlace_4 rfl)
/-! WideTurn.Tape.latestFault()I -/
def f_T_latestFault (v0 : Option Nat) (h : MH) : Option (Int32) :=
  Option.bind (gfi h v0 [9] 5) fun x1 =>
  some x1
set_option maxHeartbeats 4000000 in
set_option maxRecDepth 200000 in
theorem t_T_latestFault (v0 : Option Nat) (h : MH) (r : (Int32)) (hyp : f_T_latestFault v0 h = some r) : Mt mi_T_latestFault 1 [va_rf v0] h (some (.int r)) h := by
  refine Mt.rt (lv := [(0, va_rf v0)]) (by decide +kernel) (by simp [lv_args, mj_rfc, mj_cti, mj_ctl]) (by simp [mj_rfc, mj_cti, mj_ctl]) ?_
  unfold f_T_latestFault at hyp
  obtain ⟨x1, e2, hyp⟩ := Option.bind_eq_some_iff.mp hyp
  refine rt_st (pc1 := 4) (fun _ _ B => go_aload_n 0 d_T_latestFault_0 rfl (go_gfi d_T_latestFault_1 fd_9_5 w109 e2 B)) ?_
  exact rt_eqR Value.int hyp (rt_int d_T_latestFault_4 rfl)
/-! WideTurn.Tape.append(I)Z -/
def f_T_append (v0 : Option Nat) (v1 : Int32) (h : MH) : Option (Int32 × MH) :=
  Option.bind (gfi h v0 [9] 1) fun x1 =>
  if x1 < (120 : Int32) then
    Option.bind (gfr h v0 [9] 0) fun x4 =>
    Option.bind (gfi h v0 [9] 1) fun x6 =>
    Option.bind (f_C_put x4 x6 v1 h) fun h8 =>
    Option.bind (gfi h8 v0 [9] 1) fun x10 =>
    Option.bind (pfv h8 v0 [9] 1 (.int (x10 + (1 : Int32)))) fun h12 =>
    some ((1 : Int32), h12)
  else
    some ((0 : Int32), h)
set_option maxHeartbeats 4000000 in
set_option maxRecDepth 200000 in
theorem t_T_append (v0 : Option Nat) (v1 : Int32) (h : MH) (r : (Int32 × MH)) (hyp : f_T_append v0 v1 h = some r) : Mt mi_T_append 2 [va_rf v0, .int v1] h (some (.int r.1)) r.2 := by
  refine Mt.rt (lv := [(0, va_rf v0), (1, .int v1)]) (by decide +kernel) (by simp [lv_args, mj_rfc, mj_cti, mj_ctl]) (by simp [mj_rfc, mj_cti, mj_ctl]) ?_
  unfold f_T_append at hyp
  obtain ⟨x1, e2, hyp⟩ := Option.bind_eq_some_iff.mp hyp
  refine rt_st (pc1 := 6) (fun _ _ B => go_aload_n 0 d_T_append_0 rfl (go_gfi d_T_append_1 fd_9_1 w105 e2 (go_bipush (v := (120 : Int32)) d_T_append_4 (by decide) B))) ?_
  by_cases c3 : x1 < (120 : Int32)
  · replace hyp := (if_pos c3).symm.trans hyp
    obtain ⟨x4, e5, hyp⟩ := Option.bind_eq_some_iff.mp hyp
    obtain ⟨x6, e7, hyp⟩ := Option.bind_eq_some_iff.mp hyp
    obtain ⟨h8, e9, hyp⟩ := Option.bind_eq_some_iff.mp hyp
    obtain ⟨x10, e11, hyp⟩ := Option.bind_eq_some_iff.mp hyp
    obtain ⟨h12, e13, hyp⟩ := Option.bind_eq_some_iff.mp hyp
    refine rt_st (pc1 := 34) (fun _ _ B => go_icmp_lt_t 11 d_T_append_6 rfl c3 (go_aload_n 0 d_T_append_11 rfl (go_gfr d_T_append_12 fd_9_0 w104 e5 (go_aload_n 0 d_T_append_15 rfl (go_gfi d_T_append_16 fd_9_1 w105 e7 (go_iload_n 1 d_T_append_19 rfl (go_callSN0 (st := []) [va_rf x4, .int x6, .int v1] (t_C_put x4 x6 v1 h _ e9) mm_C_put (by decide) d_T_append_20 w386 w327 rfl (Nat.le_of_ble_eq_true rfl) rfl (go_aload_n 0 d_T_append_23 rfl (go_dup d_T_append_24 (mj_rfc _) (go_gfi d_T_append_25 fd_9_1 w105 e11 (go_iconst (v := (1 : Int32)) d_T_append_28 (by decide) (go_iadd d_T_append_29 (go_pfi d_T_append_30 fd_9_1 w105 (fun q => by cases q) e13 (go_iconst (v := (1 : Int32)) d_T_append_33 (by decide) B)))))))))))))) ?_
    exact rt_eqW Value.int hyp (rt_bool d_T_append_34 rfl (by decide))
  · replace hyp := (if_neg c3).symm.trans hyp
    refine rt_st (pc1 := 10) (fun _ _ B => go_icmp_lt_f d_T_append_6 rfl c3 (go_iconst (v := (0 : Int32)) d_T_append_9 (by decide) B)) ?_
    exact rt_eqW Value.int hyp (rt_bool d_T_append_10 rfl (by decide))
/-! WideTurn.Tape.letterAt(I)I -/
def f_T_letterAt (v0 : Option Nat) (v1 : Int32) (h : MH) : Option (Int32) :=
  if v1 < 0 then
    some (-1 : Int32)
  else
    Option.bind (gfi h v0 [9] 1) fun x2 =>
    if x2 ≤ v1 then
      some (-1 : Int32)
    else
      Option.bind (gfr h v0 [9] 0) fun x5 =>
      Option.bind (f_C_at x5 v1 h) fun x7 =>
      some x7
set_option maxHeartbeats 4000000 in
set_option maxRecDepth 200000 in
theorem t_T_letterAt (v0 : Option Nat) (v1 : Int32) (h : MH) (r : (Int32)) (hyp : f_T_letterAt v0 v1 h = some r) : Mt mi_T_letterAt 2 [va_rf v0, .int v1] h (some (.int r)) h := by
  refine Mt.rt (lv := [(0, va_rf v0), (1, .int v1)]) (by decide +kernel) (by simp [lv_args, mj_rfc, mj_cti, mj_ctl]) (by simp [mj_rfc, mj_cti, mj_ctl]) ?_
  unfold f_T_letterAt at hyp
  refine rt_st (pc1 := 1) (fun _ _ B => go_iload_n 1 d_T_letterAt_0 rfl B) ?_
  by_cases c1 : v1 < 0
  · replace hyp := (if_pos c1).symm.trans hyp
    refine rt_st (pc1 := 24) (fun _ _ B => go_if_lt_t 23 d_T_letterAt_1 rfl c1 (go_iconst (v := (-1 : Int32)) d_T_letterAt_23 (by decide) B)) ?_
    exact rt_eqR Value.int hyp (rt_int d_T_letterAt_24 rfl)
  · replace hyp := (if_neg c1).symm.trans hyp
    obtain ⟨x2, e3, hyp⟩ := Option.bind_eq_some_iff.mp hyp
    refine rt_st (pc1 := 9) (fun _ _ B => go_if_lt_f d_T_letterAt_1 rfl c1 (go_iload_n 1 d_T_letterAt_4 rfl (go_aload_n 0 d_T_letterAt_5 rfl (go_gfi d_T_letterAt_6 fd_9_1 w105 e3 B)))) ?_
    by_cases c4 : x2 ≤ v1
    · replace hyp := (if_pos c4).symm.trans hyp
      refine rt_st (pc1 := 24) (fun _ _ B => go_icmp_ge_t 23 d_T_letterAt_9 rfl c4 (go_iconst (v := (-1 : Int32)) d_T_letterAt_23 (by decide) B)) ?_
      exact rt_eqR Value.int hyp (rt_int d_T_letterAt_24 rfl)
    · replace hyp := (if_neg c4).symm.trans hyp
      obtain ⟨x5, e6, hyp⟩ := Option.bind_eq_some_iff.mp hyp
      obtain ⟨x7, e8, hyp⟩ := Option.bind_eq_some_iff.mp hyp
      refine rt_st (pc1 := 24) (fun _ _ B => go_icmp_ge_f d_T_letterAt_9 rfl c4 (go_aload_n 0 d_T_letterAt_12 rfl (go_gfr d_T_letterAt_13 fd_9_0 w104 e6 (go_iload_n 1 d_T_letterAt_16 rfl (go_callSN1 (st := []) [va_rf x5, .int v1] (t_C_at x5 v1 h _ e8) mm_C_at (by decide) d_T_letterAt_17 w416 w343 rfl (Nat.le_of_ble_eq_true rfl) rfl (go_goto 24 d_T_letterAt_20 rfl B)))))) ?_
      exact rt_eqR Value.int hyp (rt_int d_T_letterAt_24 rfl)
/-! WideTurn.Tape.fail(II)V -/
def f_T_fail (v0 : Option Nat) (v1 : Int32) (v2 : Int32) (h : MH) : Option MH :=
  Option.bind (gfi h v0 [9] 3) fun x1 =>
  if x1 = 0 then
    Option.bind (pfv h v0 [9] 3 (.int v1)) fun h4 =>
    Option.bind (pfv h4 v0 [9] 4 (.int v2)) fun h6 =>
    Option.bind (pfv h6 v0 [9] 5 (.int v1)) fun h8 =>
    some h8
  else
    some h
set_option maxHeartbeats 4000000 in
set_option maxRecDepth 200000 in
theorem t_T_fail (v0 : Option Nat) (v1 : Int32) (v2 : Int32) (h : MH) (r : MH) (hyp : f_T_fail v0 v1 v2 h = some r) : Mt mi_T_fail 1 [va_rf v0, .int v1, .int v2] h none r := by
  refine Mt.rt (lv := [(0, va_rf v0), (1, .int v1), (2, .int v2)]) (by decide +kernel) (by simp [lv_args, mj_rfc, mj_cti, mj_ctl]) (by simp [mj_rfc, mj_cti, mj_ctl]) ?_
  unfold f_T_fail at hyp
  obtain ⟨x1, e2, hyp⟩ := Option.bind_eq_some_iff.mp hyp
  refine rt_st (pc1 := 4) (fun _ _ B => go_aload_n 0 d_T_fail_0 rfl (go_gfi d_T_fail_1 fd_9_3 w107 e2 B)) ?_
  by_cases c3 : x1 = 0
  · replace hyp := (if_pos c3).symm.trans hyp
    obtain ⟨h4, e5, hyp⟩ := Option.bind_eq_some_iff.mp hyp
    obtain ⟨h6, e7, hyp⟩ := Option.bind_eq_some_iff.mp hyp
    obtain ⟨h8, e9, hyp⟩ := Option.bind_eq_some_iff.mp hyp
    refine rt_st (pc1 := 22) (fun _ _ B => go_if_ne_f d_T_fail_4 rfl c3 (go_aload_n 0 d_T_fail_7 rfl (go_iload_n 1 d_T_fail_8 rfl (go_pfi d_T_fail_9 fd_9_3 w107 (fun q => by cases q) e5 (go_aload_n 0 d_T_fail_12 rfl (go_iload_n 2 d_T_fail_13 rfl (go_pfi d_T_fail_14 fd_9_4 w108 (fun q => by cases q) e7 (go_aload_n 0 d_T_fail_17 rfl (go_iload_n 1 d_T_fail_18 rfl (go_pfi d_T_fail_19 fd_9_5 w109 (fun q => by cases q) e9 B)))))))))) ?_
    exact rt_eq0 hyp (rt_void d_T_fail_22 rfl)
  · replace hyp := (if_neg c3).symm.trans hyp
    refine rt_st (pc1 := 22) (fun _ _ B => go_if_ne_t 22 d_T_fail_4 rfl c3 B) ?_
    exact rt_eq0 hyp (rt_void d_T_fail_22 rfl)
/-! WideTurn.Tape.readLetter(I)V -/
def f_T_readLetter (v0 : Option Nat) (v1 : Int32) (h : MH) : Option MH :=
  Option.bind (gfi h v0 [9] 2) fun x1 =>
  Option.bind (onc h v0 9 (f_T_letterAt v0 x1 h)) fun x3 =>
  if x3 = v1 then
    Option.bind (gfi h v0 [9] 3) fun x6 =>
    if x6 = 0 then
      Option.bind (gfi h v0 [9] 2) fun x9 =>
      Option.bind (pfv h v0 [9] 2 (.int (x9 + (1 : Int32)))) fun h11 =>
      some h11
    else
      some h
  else
    Option.bind (gfi h v0 [9] 2) fun x13 =>
    Option.bind (onc h v0 9 (f_T_fail v0 (1 : Int32) x13 h)) fun h15 =>
    some h15
set_option maxHeartbeats 4000000 in
set_option maxRecDepth 200000 in
theorem t_T_readLetter (v0 : Option Nat) (v1 : Int32) (h : MH) (r : MH) (hyp : f_T_readLetter v0 v1 h = some r) : Mt mi_T_readLetter 3 [va_rf v0, .int v1] h none r := by
  refine Mt.rt (lv := [(0, va_rf v0), (1, .int v1)]) (by decide +kernel) (by simp [lv_args, mj_rfc, mj_cti, mj_ctl]) (by simp [mj_rfc, mj_cti, mj_ctl]) ?_
  unfold f_T_readLetter at hyp
  obtain ⟨x1, e2, hyp⟩ := Option.bind_eq_some_iff.mp hyp
  obtain ⟨x3, e4, hyp⟩ := Option.bind_eq_some_iff.mp hyp
  refine rt_st (pc1 := 9) (fun _ _ B => go_aload_n 0 d_T_readLetter_0 rfl (go_aload_n 0 d_T_readLetter_1 rfl (go_gfi d_T_readLetter_2 fd_9_2 w106 e2 (go_callV1 (q := q_9) (st := []) [.int x1] (t_T_letterAt v0 x1 h _ (onc_spec e4).2) mm_T_letterAt (by decide) d_T_readLetter_5 (onc_spec e4).1 rfl rfl w412 w414 w4 rfl (Nat.le_of_ble_eq_true rfl) rfl (go_iload_n 1 d_T_readLetter_8 rfl B))))) ?_
  by_cases c5 : x3 = v1
  · replace hyp := (if_pos c5).symm.trans hyp
    obtain ⟨x6, e7, hyp⟩ := Option.bind_eq_some_iff.mp hyp
    refine rt_st (pc1 := 28) (fun _ _ B => go_icmp_eq_t 24 d_T_readLetter_9 rfl c5 (go_aload_n 0 d_T_readLetter_24 rfl (go_gfi d_T_readLetter_25 fd_9_3 w107 e7 B))) ?_
    by_cases c8 : x6 = 0
    · replace hyp := (if_pos c8).symm.trans hyp
      obtain ⟨x9, e10, hyp⟩ := Option.bind_eq_some_iff.mp hyp
      obtain ⟨h11, e12, hyp⟩ := Option.bind_eq_some_iff.mp hyp
      refine rt_st (pc1 := 41) (fun _ _ B => go_if_ne_f d_T_readLetter_28 rfl c8 (go_aload_n 0 d_T_readLetter_31 rfl (go_dup d_T_readLetter_32 (mj_rfc _) (go_gfi d_T_readLetter_33 fd_9_2 w106 e10 (go_iconst (v := (1 : Int32)) d_T_readLetter_36 (by decide) (go_iadd d_T_readLetter_37 (go_pfi d_T_readLetter_38 fd_9_2 w106 (fun q => by cases q) e12 B))))))) ?_
      exact rt_eq0 hyp (rt_void d_T_readLetter_41 rfl)
    · replace hyp := (if_neg c8).symm.trans hyp
      refine rt_st (pc1 := 41) (fun _ _ B => go_if_ne_t 41 d_T_readLetter_28 rfl c8 B) ?_
      exact rt_eq0 hyp (rt_void d_T_readLetter_41 rfl)
  · replace hyp := (if_neg c5).symm.trans hyp
    obtain ⟨x13, e14, hyp⟩ := Option.bind_eq_some_iff.mp hyp
    obtain ⟨h15, e16, hyp⟩ := Option.bind_eq_some_iff.mp hyp
    refine rt_st (pc1 := 41) (fun _ _ B => go_icmp_eq_f d_T_readLetter_9 rfl c5 (go_aload_n 0 d_T_readLetter_12 rfl (go_iconst (v := (1 : Int32)) d_T_readLetter_13 (by decide) (go_aload_n 0 d_T_readLetter_14 rfl (go_gfi d_T_readLetter_15 fd_9_2 w106 e14 (go_callV0 (q := q_9) (st := []) [.int (1 : Int32), .int x13] (t_T_fail v0 (1 : Int32) x13 h _ (onc_spec e16).2) mm_T_fail (by decide) d_T_readLetter_18 (onc_spec e16).1 rfl rfl w417 w419 w5 rfl (Nat.le_of_ble_eq_true rfl) rfl (go_goto 41 d_T_readLetter_21 rfl B))))))) ?_
    exact rt_eq0 hyp (rt_void d_T_readLetter_41 rfl)
/-! WideTurn.Tape.isFigure(I)Z -/
def f_T_isFigure (v0 : Int32) : Int32 :=
  if v0 < (48 : Int32) then
    (0 : Int32)
  else
    if (57 : Int32) < v0 then
      (0 : Int32)
    else
      (1 : Int32)
set_option maxHeartbeats 4000000 in
set_option maxRecDepth 200000 in
theorem t_T_isFigure (v0 : Int32) (h : MH) : Mt mi_T_isFigure 1 [.int v0] h (some (.int (f_T_isFigure v0))) h := by
  refine Mt.rt (lv := [(0, .int v0)]) (by decide +kernel) (by simp [lv_args, mj_rfc, mj_cti, mj_ctl]) (by simp [mj_rfc, mj_cti, mj_ctl]) ?_
  unfold f_T_isFigure
  refine rt_st (pc1 := 3) (fun _ _ B => go_iload_n 0 d_T_isFigure_0 rfl (go_bipush (v := (48 : Int32)) d_T_isFigure_1 (by decide) B)) ?_
  by_cases c1 : v0 < (48 : Int32)
  · rw [if_pos c1]
    refine rt_st (pc1 := 17) (fun _ _ B => go_icmp_lt_t 16 d_T_isFigure_3 rfl c1 (go_iconst (v := (0 : Int32)) d_T_isFigure_16 (by decide) B)) ?_
    exact rt_bool d_T_isFigure_17 rfl (by decide)
  · rw [if_neg c1]
    refine rt_st (pc1 := 9) (fun _ _ B => go_icmp_lt_f d_T_isFigure_3 rfl c1 (go_iload_n 0 d_T_isFigure_6 rfl (go_bipush (v := (57 : Int32)) d_T_isFigure_7 (by decide) B))) ?_
    by_cases c2 : (57 : Int32) < v0
    · rw [if_pos c2]
      refine rt_st (pc1 := 17) (fun _ _ B => go_icmp_gt_t 16 d_T_isFigure_9 rfl c2 (go_iconst (v := (0 : Int32)) d_T_isFigure_16 (by decide) B)) ?_
      exact rt_bool d_T_isFigure_17 rfl (by decide)
    · rw [if_neg c2]
      refine rt_st (pc1 := 17) (fun _ _ B => go_icmp_gt_f d_T_isFigure_9 rfl c2 (go_iconst (v := (1 : Int32)) d_T_isFigure_12 (by decide) (go_goto 17 d_T_isFigure_13 rfl B))) ?_
      exact rt_bool d_T_isFigure_17 rfl (by decide)
set_option maxHeartbeats 4000000 in
set_option maxRecDepth 200000 in
theorem z_T_isFigure (v0 : Int32) : (f_T_isFigure v0) &&& 1 = f_T_isFigure v0 := by
  unfold f_T_isFigure
  repeat' split
  all_goals first | decide | skip
