/-! WideTurnModel.hand(II)I -/
def f_M_hand (v0 : Option Nat) (v1 : Int32) (v2 : Int32) (h : MH) : Option (Int32 × MH) :=
  Option.bind (pfv h v0 [11] 0 (.int (0 : Int32))) fun h1 =>
  Option.bind (onc h1 v0 11 (f_M_isHand v0 v1 h1)) fun x3 =>
  if x3 = 0 then
    some ((-1000001 : Int32), h1)
  else
    if (f_M_in v2 (0 : Int32) (7 : Int32)) = 0 then
      some ((-1000001 : Int32), h1)
    else
      Option.bind (gfr h1 v0 [11] 15) fun x7 =>
      Option.bind (ald h1 x7 0 ((5 : Int32) + v1)) fun x9 =>
      if (f_M_makes x9 v2) = 0 then
        some ((-1000000 : Int32), h1)
      else
        Option.bind (gfr h1 v0 [11] 15) fun x12 =>
        Option.bind (f_M_minutesOf x12 v1 v2 h1) fun x14 =>
        some (x14, h1)
set_option maxHeartbeats 4000000 in
set_option maxRecDepth 200000 in
theorem t_M_hand (v0 : Option Nat) (v1 : Int32) (v2 : Int32) (h : MH) (r : (Int32 × MH)) (hyp : f_M_hand v0 v1 v2 h = some r) : Mt mi_M_hand 3 [va_rf v0, .int v1, .int v2] h (some (.int r.1)) r.2 := by
  refine Mt.rt (lv := [(0, va_rf v0), (1, .int v1), (2, .int v2)]) (by decide +kernel) (by simp [lv_args, mj_rfc, mj_cti, mj_ctl]) (by simp [mj_rfc, mj_cti, mj_ctl]) ?_
  unfold f_M_hand at hyp
  obtain ⟨h1, e2, hyp⟩ := Option.bind_eq_some_iff.mp hyp
  obtain ⟨x3, e4, hyp⟩ := Option.bind_eq_some_iff.mp hyp
  refine rt_st (pc1 := 10) (fun _ _ B => go_aload_n 0 d_M_hand_0 rfl (go_iconst (v := (0 : Int32)) d_M_hand_1 (by decide) (go_pfi d_M_hand_2 fd_11_0 w989 (fun q => by cases q) e2 (go_aload_n 0 d_M_hand_5 rfl (go_iload_n 1 d_M_hand_6 rfl (go_callV1 (q := q_11) (st := []) [.int v1] (t_M_isHand v0 v1 h1 _ (onc_spec e4).2) mm_M_isHand (by decide) d_M_hand_7 (onc_spec e4).1 rfl rfl w1169 w1171 w40 rfl (Nat.le_of_ble_eq_true rfl) rfl B)))))) ?_
  by_cases c5 : x3 = 0
  · replace hyp := (if_pos c5).symm.trans hyp
    refine rt_st (pc1 := 25) (fun _ _ B => go_if_eq_t 23 d_M_hand_10 rfl c5 (go_ldc (v := (-1000001 : Int32)) d_M_hand_23 w1076 B)) ?_
    exact rt_eqW Value.int hyp (rt_int d_M_hand_25 rfl)
  · replace hyp := (if_neg c5).symm.trans hyp
    refine rt_st (pc1 := 20) (fun _ _ B => go_if_eq_f d_M_hand_10 rfl c5 (go_iload_n 2 d_M_hand_13 rfl (go_iconst (v := (0 : Int32)) d_M_hand_14 (by decide) (go_bipush (v := (7 : Int32)) d_M_hand_15 (by decide) (go_callS1 (st := []) [.int v2, .int (0 : Int32), .int (7 : Int32)] (t_M_in v2 (0 : Int32) (7 : Int32) h1) mm_M_in (by decide) d_M_hand_17 w1073 w1074 rfl (Nat.le_of_ble_eq_true rfl) rfl B))))) ?_
    by_cases c6 : (f_M_in v2 (0 : Int32) (7 : Int32)) = 0
    · replace hyp := (if_pos c6).symm.trans hyp
      refine rt_st (pc1 := 25) (fun _ _ B => go_if_ne_f d_M_hand_20 rfl c6 (go_ldc (v := (-1000001 : Int32)) d_M_hand_23 w1076 B)) ?_
      exact rt_eqW Value.int hyp (rt_int d_M_hand_25 rfl)
    · replace hyp := (if_neg c6).symm.trans hyp
      obtain ⟨x7, e8, hyp⟩ := Option.bind_eq_some_iff.mp hyp
      obtain ⟨x9, e10, hyp⟩ := Option.bind_eq_some_iff.mp hyp
      refine rt_st (pc1 := 38) (fun _ _ B => go_if_ne_t 26 d_M_hand_20 rfl c6 (go_aload_n 0 d_M_hand_26 rfl (go_gfr d_M_hand_27 fd_11_15 w1004 e8 (go_iconst (v := (5 : Int32)) d_M_hand_30 (by decide) (go_iload_n 1 d_M_hand_31 rfl (go_iadd d_M_hand_32 (go_iald d_M_hand_33 e10 (go_iload_n 2 d_M_hand_34 rfl (go_callS1 (st := []) [.int x9, .int v2] (t_M_makes x9 v2 h1) mm_M_makes (by decide) d_M_hand_35 w1185 w1186 rfl (Nat.le_of_ble_eq_true rfl) rfl B))))))))) ?_
      by_cases c11 : (f_M_makes x9 v2) = 0
      · replace hyp := (if_pos c11).symm.trans hyp
        refine rt_st (pc1 := 55) (fun _ _ B => go_if_eq_t 53 d_M_hand_38 rfl c11 (go_ldc (v := (-1000000 : Int32)) d_M_hand_53 w1239 B)) ?_
        exact rt_eqW Value.int hyp (rt_int d_M_hand_55 rfl)
      · replace hyp := (if_neg c11).symm.trans hyp
        obtain ⟨x12, e13, hyp⟩ := Option.bind_eq_some_iff.mp hyp
        obtain ⟨x14, e15, hyp⟩ := Option.bind_eq_some_iff.mp hyp
        refine rt_st (pc1 := 55) (fun _ _ B => go_if_eq_f d_M_hand_38 rfl c11 (go_aload_n 0 d_M_hand_41 rfl (go_gfr d_M_hand_42 fd_11_15 w1004 e13 (go_iload_n 1 d_M_hand_45 rfl (go_iload_n 2 d_M_hand_46 rfl (go_callS1 (st := []) [va_rf x12, .int v1, .int v2] (t_M_minutesOf x12 v1 v2 h1 _ e15) mm_M_minutesOf (by decide) d_M_hand_47 w1201 w1202 rfl (Nat.le_of_ble_eq_true rfl) rfl (go_goto 55 d_M_hand_50 rfl B))))))) ?_
        exact rt_eqW Value.int hyp (rt_int d_M_hand_55 rfl)
/-! WideTurnModel.node([I)I -/
def f_M_node (v0 : Option Nat) (h : MH) : Option (Int32) :=
  Option.bind (ald h v0 0 (14 : Int32)) fun x1 =>
  Option.bind (ald h v0 0 (15 : Int32)) fun x3 =>
  Option.bind (ald h v0 0 (17 : Int32)) fun x5 =>
  some ((((24 : Int32) * x1) + ((3 : Int32) * x3)) + (mj_irem x5 (3 : Int32)))
set_option maxHeartbeats 4000000 in
set_option maxRecDepth 200000 in
theorem t_M_node (v0 : Option Nat) (h : MH) (r : (Int32)) (hyp : f_M_node v0 h = some r) : Mt mi_M_node 1 [va_rf v0] h (some (.int r)) h := by
  refine Mt.rt (lv := [(0, va_rf v0)]) (by decide +kernel) (by simp [lv_args, mj_rfc, mj_cti, mj_ctl]) (by simp [mj_rfc, mj_cti, mj_ctl]) ?_
  unfold f_M_node at hyp
  obtain ⟨x1, e2, hyp⟩ := Option.bind_eq_some_iff.mp hyp
  obtain ⟨x3, e4, hyp⟩ := Option.bind_eq_some_iff.mp hyp
  obtain ⟨x5, e6, hyp⟩ := Option.bind_eq_some_iff.mp hyp
  refine rt_st (pc1 := 21) (fun _ _ B => go_bipush (v := (24 : Int32)) d_M_node_0 (by decide) (go_aload_n 0 d_M_node_2 rfl (go_bipush (v := (14 : Int32)) d_M_node_3 (by decide) (go_iald d_M_node_5 e2 (go_imul d_M_node_6 (go_iconst (v := (3 : Int32)) d_M_node_7 (by decide) (go_aload_n 0 d_M_node_8 rfl (go_bipush (v := (15 : Int32)) d_M_node_9 (by decide) (go_iald d_M_node_11 e4 (go_imul d_M_node_12 (go_iadd d_M_node_13 (go_aload_n 0 d_M_node_14 rfl (go_bipush (v := (17 : Int32)) d_M_node_15 (by decide) (go_iald d_M_node_17 e6 (go_iconst (v := (3 : Int32)) d_M_node_18 (by decide) (go_irem d_M_node_19 (by decide) (go_iadd d_M_node_20 B))))))))))))))))) ?_
  exact rt_eqR Value.int hyp (rt_int d_M_node_21 rfl)
/-! WideTurnModel.puts([II)V -/
def f_M_puts (v0 : Option Nat) (v1 : Int32) (h : MH) : Option MH :=
  Option.bind (ast h v0 0 (14 : Int32) (v1 / (24 : Int32))) fun h1 =>
  Option.bind (ast h1 v0 0 (15 : Int32) (mj_irem (v1 / (3 : Int32)) (8 : Int32))) fun h3 =>
  Option.bind (ast h3 v0 0 (17 : Int32) (mj_irem v1 (3 : Int32))) fun h5 =>
  some h5
set_option maxHeartbeats 4000000 in
set_option maxRecDepth 200000 in
theorem t_M_puts (v0 : Option Nat) (v1 : Int32) (h : MH) (r : MH) (hyp : f_M_puts v0 v1 h = some r) : Mt mi_M_puts 1 [va_rf v0, .int v1] h none r := by
  refine Mt.rt (lv := [(0, va_rf v0), (1, .int v1)]) (by decide +kernel) (by simp [lv_args, mj_rfc, mj_cti, mj_ctl]) (by simp [mj_rfc, mj_cti, mj_ctl]) ?_
  unfold f_M_puts at hyp
  obtain ⟨h1, e2, hyp⟩ := Option.bind_eq_some_iff.mp hyp
  obtain ⟨h3, e4, hyp⟩ := Option.bind_eq_some_iff.mp hyp
  obtain ⟨h5, e6, hyp⟩ := Option.bind_eq_some_iff.mp hyp
  refine rt_st (pc1 := 25) (fun _ _ B => go_aload_n 0 d_M_puts_0 rfl (go_bipush (v := (14 : Int32)) d_M_puts_1 (by decide) (go_iload_n 1 d_M_puts_3 rfl (go_bipush (v := (24 : Int32)) d_M_puts_4 (by decide) (go_idiv d_M_puts_6 (by decide) (go_iast d_M_puts_7 e2 (go_aload_n 0 d_M_puts_8 rfl (go_bipush (v := (15 : Int32)) d_M_puts_9 (by decide) (go_iload_n 1 d_M_puts_11 rfl (go_iconst (v := (3 : Int32)) d_M_puts_12 (by decide) (go_idiv d_M_puts_13 (by decide) (go_bipush (v := (8 : Int32)) d_M_puts_14 (by decide) (go_irem d_M_puts_16 (by decide) (go_iast d_M_puts_17 e4 (go_aload_n 0 d_M_puts_18 rfl (go_bipush (v := (17 : Int32)) d_M_puts_19 (by decide) (go_iload_n 1 d_M_puts_21 rfl (go_iconst (v := (3 : Int32)) d_M_puts_22 (by decide) (go_irem d_M_puts_23 (by decide) (go_iast d_M_puts_24 e6 B)))))))))))))))))))) ?_
  exact rt_eq0 hyp (rt_void d_M_puts_25 rfl)
/-! WideTurnModel.behind([IIIII)I -/
def b_M_behind_43 : (Option Nat) → (Int32) → (Int32) → (Int32) → (Int32) → (MH) → (Option (Int32 × MH)) := fun v0 v5 v6 v7 s0 h => 
  Option.bind (ast h v0 0 (14 : Int32) v5) fun h1 =>
  Option.bind (ast h1 v0 0 (15 : Int32) v6) fun h3 =>
  Option.bind (ast h3 v0 0 (17 : Int32) v7) fun h5 =>
  some (s0, h5)
def f_M_behind (v0 : Option Nat) (v1 : Int32) (v2 : Int32) (v3 : Int32) (v4 : Int32) (h : MH) : Option (Int32 × MH) :=
  Option.bind (ald h v0 0 (14 : Int32)) fun x1 =>
  Option.bind (ald h v0 0 (15 : Int32)) fun x3 =>
  Option.bind (ald h v0 0 (17 : Int32)) fun x5 =>
  Option.bind (f_M_puts v0 v1 h) fun h7 =>
  Option.bind (f_M_goes v0 v2 v3 v4 h7) fun x9 =>
  if x9.1 = 0 then
    b_M_behind_43 v0 x1 x3 x5 (-1000000 : Int32) x9.2
  else
    Option.bind (f_M_node v0 x9.2) fun x12 =>
    b_M_behind_43 v0 x1 x3 x5 x12 x9.2
set_option maxHeartbeats 4000000 in
set_option maxRecDepth 200000 in
theorem p_M_behind_43 {h0 : MH} (v0 : Option Nat) (v5 : Int32) (v6 : Int32) (v7 : Int32) (s0 : Int32) (h : MH) (r : (Int32 × MH)) : b_M_behind_43  v0 v5 v6 v7 s0 h = some r → Rt mi_M_behind 6 h0 43 [(0, va_rf v0), (5, .int v5), (6, .int v6), (7, .int v7)] [.int s0] h (some (.int r.1)) r.2 := by
  intro hyp
  unfold b_M_behind_43 at hyp
  obtain ⟨h1, e2, hyp⟩ := Option.bind_eq_some_iff.mp hyp
  obtain ⟨h3, e4, hyp⟩ := Option.bind_eq_some_iff.mp hyp
  obtain ⟨h5, e6, hyp⟩ := Option.bind_eq_some_iff.mp hyp
  refine rt_st (pc1 := 65) (fun _ _ B => go_istore (lv1 := [(8, .int s0), (0, va_rf v0), (5, .int v5), (6, .int v6), (7, .int v7)]) d_M_behind_43 (by decide) rfl (go_aload_n 1 d_M_behind_45 rfl (go_bipush (v := (14 : Int32)) d_M_behind_46 (by decide) (go_iload 2 d_M_behind_48 rfl (go_iast d_M_behind_50 e2 (go_aload_n 1 d_M_behind_51 rfl (go_bipush (v := (15 : Int32)) d_M_behind_52 (by decide) (go_iload 3 d_M_behind_54 rfl (go_iast d_M_behind_56 e4 (go_aload_n 1 d_M_behind_57 rfl (go_bipush (v := (17 : Int32)) d_M_behind_58 (by decide) (go_iload 4 d_M_behind_60 rfl (go_iast d_M_behind_62 e6 (go_iload 0 d_M_behind_63 rfl B)))))))))))))) ?_
  exact rt_eqW Value.int hyp (rt_int d_M_behind_65 rfl)
set_option maxHeartbeats 4000000 in
set_option maxRecDepth 200000 in
theorem t_M_behind (v0 : Option Nat) (v1 : Int32) (v2 : Int32) (v3 : Int32) (v4 : Int32) (h : MH) (r : (Int32 × MH)) (hyp : f_M_behind v0 v1 v2 v3 v4 h = some r) : Mt mi_M_behind 6 [va_rf v0, .int v1, .int v2, .int v3, .int v4] h (some (.int r.1)) r.2 := by
  refine Mt.rt (lv := [(0, va_rf v0), (1, .int v1), (2, .int v2), (3, .int v3), (4, .int v4)]) (by decide +kernel) (by simp [lv_args, mj_rfc, mj_cti, mj_ctl]) (by simp [mj_rfc, mj_cti, mj_ctl]) ?_
  unfold f_M_behind at hyp
  obtain ⟨x1, e2, hyp⟩ := Option.bind_eq_some_iff.mp hyp
  obtain ⟨x3, e4, hyp⟩ := Option.bind_eq_some_iff.mp hyp
  obtain ⟨x5, e6, hyp⟩ := Option.bind_eq_some_iff.mp hyp
  obtain ⟨h7, e8, hyp⟩ := Option.bind_eq_some_iff.mp hyp
  obtain ⟨x9, e10, hyp⟩ := Option.bind_eq_some_iff.mp hyp
  refine rt_st (pc1 := 31) (fun _ _ B => go_aload_n 0 d_M_behind_0 rfl (go_bipush (v := (14 : Int32)) d_M_behind_1 (by decide) (go_iald d_M_behind_3 e2 (go_istore (lv1 := [(5, .int x1), (0, va_rf v0), (1, .int v1), (2, .int v2), (3, .int v3), (4, .int v4)]) d_M_behind_4 (by decide) rfl (go_aload_n 1 d_M_behind_6 rfl (go_bipush (v := (15 : Int32)) d_M_behind_7 (by decide) (go_iald d_M_behind_9 e4 (go_istore (lv1 := [(6, .int x3), (5, .int x1), (0, va_rf v0), (1, .int v1), (2, .int v2), (3, .int v3), (4, .int v4)]) d_M_behind_10 (by decide) rfl (go_aload_n 2 d_M_behind_12 rfl (go_bipush (v := (17 : Int32)) d_M_behind_13 (by decide) (go_iald d_M_behind_15 e6 (go_istore (lv1 := [(7, .int x5), (6, .int x3), (5, .int x1), (0, va_rf v0), (1, .int v1), (2, .int v2), (3, .int v3), (4, .int v4)]) d_M_behind_16 (by decide) rfl (go_aload_n 3 d_M_behind_18 rfl (go_iload_n 4 d_M_behind_19 rfl (go_callS0 (st := []) [va_rf v0, .int v1] (t_M_puts v0 v1 h _ e8) mm_M_puts (by decide) d_M_behind_20 w1252 w1253 rfl (Nat.le_of_ble_eq_true rfl) rfl (go_aload_n 3 d_M_behind_23 rfl (go_iload_n 5 d_M_behind_24 rfl (go_iload_n 6 d_M_behind_25 rfl (go_iload 7 d_M_behind_26 rfl (go_callS1 (st := []) [va_rf v0, .int v2, .int v3, .int v4] (t_M_goes v0 v2 v3 v4 h7 _ e10) mm_M_goes (by decide) d_M_behind_28 w1173 w1174 rfl (Nat.le_of_ble_eq_true rfl) rfl B)))))))))))))))))))) ?_
  by_cases c11 : x9.1 = 0
  · replace hyp := (if_pos c11).symm.trans hyp
    refine rt_st (pc1 := 43) (fun _ _ B => go_if_eq_t 41 d_M_behind_31 rfl c11 (go_ldc (v := (-1000000 : Int32)) d_M_behind_41 w1239 B)) ?_
    refine rt_sub [3, 2, 1, 0] (lv1 := [(0, va_rf v0), (5, .int x1), (6, .int x3), (7, .int x5)]) rfl ?_
    exact p_M_behind_43 _ _ _ _ _ _ r hyp
  · replace hyp := (if_neg c11).symm.trans hyp
    obtain ⟨x12, e13, hyp⟩ := Option.bind_eq_some_iff.mp hyp
    refine rt_st (pc1 := 43) (fun _ _ B => go_if_eq_f d_M_behind_31 rfl c11 (go_aload_n 3 d_M_behind_34 rfl (go_callS1 (st := []) [va_rf v0] (t_M_node v0 x9.2 _ e13) mm_M_node (by decide) d_M_behind_35 w1255 w1256 rfl (Nat.le_of_ble_eq_true rfl) rfl (go_goto 43 d_M_behind_38 rfl B)))) ?_
    refine rt_sub [3, 2, 1, 0] (lv1 := [(0, va_rf v0), (5, .int x1), (6, .int x3), (7, .int x5)]) rfl ?_
    exact p_M_behind_43 _ _ _ _ _ _ r hyp
/-! WideTurnModel.solves([IIII)I -/
def b_M_solves_234 (F : Nat) (k71 : (Option Nat) → (Option Nat) → Int32 → Int32 → MH → (Option (Int32 × MH))) (k82 : (Option Nat) → (Option Nat) → Int32 → Int32 → Int32 → MH → (Option (Int32 × MH))) (k93 : (Option Nat) → (Option Nat) → Int32 → Int32 → Int32 → Int32 → MH → (Option (Int32 × MH))) (k104 : (Option Nat) → (Option Nat) → Int32 → Int32 → Int32 → Int32 → Int32 → MH → (Option (Int32 × MH))) : (Option Nat) → (Option Nat) → (Int32) → (Int32) → (Int32) → (Int32) → (Int32) → (MH) → (Option (Int32 × MH)) := fun v0 v1 v4 v5 v6 v7 v8 h => 
  k104 v0 v1 v4 v5 v6 v7 (v8 + (1 : Int32)) h
def b_M_solves_233 (F : Nat) (k71 : (Option Nat) → (Option Nat) → Int32 → Int32 → MH → (Option (Int32 × MH))) (k82 : (Option Nat) → (Option Nat) → Int32 → Int32 → Int32 → MH → (Option (Int32 × MH))) (k93 : (Option Nat) → (Option Nat) → Int32 → Int32 → Int32 → Int32 → MH → (Option (Int32 × MH))) (k104 : (Option Nat) → (Option Nat) → Int32 → Int32 → Int32 → Int32 → Int32 → MH → (Option (Int32 × MH))) : (Option Nat) → (Option Nat) → (Int32) → (Int32) → (Int32) → (Int32) → (Int32) → (Option Nat) → (Int32) → (Int32) → (MH) → (Option (Int32 × MH)) := fun v0 v1 v4 v5 v6 v7 v8 s0 s1 s2 h => 
  Option.bind (ast h s0 0 s1 s2) fun h1 =>
  b_M_solves_234 F k71 k82 k93 k104 v0 v1 v4 v5 v6 v7 v8 h1
def b_M_solves_201 (F : Nat) (k71 : (Option Nat) → (Option Nat) → Int32 → Int32 → MH → (Option (Int32 × MH))) (k82 : (Option Nat) → (Option Nat) → Int32 → Int32 → Int32 → MH → (Option (Int32 × MH))) (k93 : (Option Nat) → (Option Nat) → Int32 → Int32 → Int32 → Int32 → MH → (Option (Int32 × MH))) (k104 : (Option Nat) → (Option Nat) → Int32 → Int32 → Int32 → Int32 → Int32 → MH → (Option (Int32 × MH))) : (Option Nat) → (Option Nat) → (Int32) → (Int32) → (Int32) → (Int32) → (Int32) → (Int32) → (MH) → (Option (Int32 × MH)) := fun v0 v1 v4 v6 v7 v8 v10 s0 h => 
  Option.bind (gfr h v0 [11] 23) fun x1 =>
  Option.bind (gfr h v0 [11] 23) fun x3 =>
  Option.bind (ald h x3 0 v6) fun x5 =>
  if x5 ≤ v10 then
    Option.bind (gfr h v0 [11] 23) fun x8 =>
    Option.bind (ald h x8 0 v6) fun x10 =>
    b_M_solves_233 F k71 k82 k93 k104 v0 v1 v4 s0 v6 v7 v8 x1 v6 x10 h
  else
    b_M_solves_233 F k71 k82 k93 k104 v0 v1 v4 s0 v6 v7 v8 x1 v6 v10 h
def b_M_solves_196 (F : Nat) (k71 : (Option Nat) → (Option Nat) → Int32 → Int32 → MH → (Option (Int32 × MH))) (k82 : (Option Nat) → (Option Nat) → Int32 → Int32 → Int32 → MH → (Option (Int32 × MH))) (k93 : (Option Nat) → (Option Nat) → Int32 → Int32 → Int32 → Int32 → MH → (Option (Int32 × MH))) (k104 : (Option Nat) → (Option Nat) → Int32 → Int32 → Int32 → Int32 → Int32 → MH → (Option (Int32 × MH))) : (Option Nat) → (Option Nat) → (Int32) → (Int32) → (Int32) → (Int32) → (Int32) → (MH) → (Option (Int32 × MH)) := fun v0 v1 v4 v6 v7 v8 v10 h => 
  b_M_solves_201 F k71 k82 k93 k104 v0 v1 v4 v6 v7 v8 v10 (1 : Int32) h
def b_M_solves_177 (F : Nat) (k71 : (Option Nat) → (Option Nat) → Int32 → Int32 → MH → (Option (Int32 × MH))) (k82 : (Option Nat) → (Option Nat) → Int32 → Int32 → Int32 → MH → (Option (Int32 × MH))) (k93 : (Option Nat) → (Option Nat) → Int32 → Int32 → Int32 → Int32 → MH → (Option (Int32 × MH))) (k104 : (Option Nat) → (Option Nat) → Int32 → Int32 → Int32 → Int32 → Int32 → MH → (Option (Int32 × MH))) : (Option Nat) → (Option Nat) → (Int32) → (Int32) → (Int32) → (Int32) → (Int32) → (Int32) → (MH) → (Option (Int32 × MH)) := fun v0 v1 v4 v5 v6 v7 v8 s0 h => 
  if v5 = 0 then
    Option.bind (gfr h v0 [11] 23) fun x2 =>
    Option.bind (ald h x2 0 v6) fun x4 =>
    if x4 ≤ s0 then
      b_M_solves_201 F k71 k82 k93 k104 v0 v1 v4 v6 v7 v8 s0 (0 : Int32) h
    else
      b_M_solves_196 F k71 k82 k93 k104 v0 v1 v4 v6 v7 v8 s0 h
  else
    b_M_solves_196 F k71 k82 k93 k104 v0 v1 v4 v6 v7 v8 s0 h
def b_M_solves_104 (F : Nat) (k71 : (Option Nat) → (Option Nat) → Int32 → Int32 → MH → (Option (Int32 × MH))) (k82 : (Option Nat) → (Option Nat) → Int32 → Int32 → Int32 → MH → (Option (Int32 × MH))) (k93 : (Option Nat) → (Option Nat) → Int32 → Int32 → Int32 → Int32 → MH → (Option (Int32 × MH))) : Nat → (Option Nat) → (Option Nat) → (Int32) → (Int32) → (Int32) → (Int32) → (Int32) → (MH) → (Option (Int32 × MH))
  | 0 => fun _ _ _ _ _ _ _ _ => none
  | n + 1 => fun v0 v1 v4 v5 v6 v7 v8 h => 
    if (8 : Int32) ≤ v8 then
      k93 v0 v1 v4 v5 v6 (v7 + (1 : Int32)) h
    else
      Option.bind (gfr h v0 [11] 23) fun x2 =>
      Option.bind (ald h x2 0 v6) fun x4 =>
      if x4 ≤ 0 then
        b_M_solves_234 F k71 k82 k93 (b_M_solves_104 F k71 k82 k93 n) v0 v1 v4 v5 v6 v7 v8 h
      else
        Option.bind (ald h v1 0 ((5 : Int32) + v7)) fun x7 =>
        if (f_M_makes x7 v8) = 0 then
          b_M_solves_234 F k71 k82 k93 (b_M_solves_104 F k71 k82 k93 n) v0 v1 v4 v5 v6 v7 v8 h
        else
          Option.bind (f_M_behind v1 v6 v7 v8 v4 h) fun x10 =>
          if x10.1 = (-1000000 : Int32) then
            b_M_solves_177 F k71 k82 k93 (b_M_solves_104 F k71 k82 k93 n) v0 v1 v4 v5 v6 v7 v8 (100000000 : Int32) x10.2
          else
            Option.bind (gfr x10.2 v0 [11] 23) fun x13 =>
            Option.bind (ald x10.2 x13 0 x10.1) fun x15 =>
            Option.bind (f_M_minutesOf v1 v7 v8 x10.2) fun x17 =>
            b_M_solves_177 F k71 k82 k93 (b_M_solves_104 F k71 k82 k93 n) v0 v1 v4 v5 v6 v7 v8 (x15 + x17) x10.2
def b_M_solves_93 (F : Nat) (k71 : (Option Nat) → (Option Nat) → Int32 → Int32 → MH → (Option (Int32 × MH))) (k82 : (Option Nat) → (Option Nat) → Int32 → Int32 → Int32 → MH → (Option (Int32 × MH))) : Nat → (Option Nat) → (Option Nat) → (Int32) → (Int32) → (Int32) → (Int32) → (MH) → (Option (Int32 × MH))
  | 0 => fun _ _ _ _ _ _ _ => none
  | n + 1 => fun v0 v1 v4 v5 v6 v7 h => 
    Option.bind (ald h v1 0 (4 : Int32)) fun x1 =>
    if x1 ≤ v7 then
      k82 v0 v1 v4 v5 (v6 + (1 : Int32)) h
    else
      b_M_solves_104 F k71 k82 (b_M_solves_93 F k71 k82 n) F v0 v1 v4 v5 v6 v7 (0 : Int32) h
def b_M_solves_82 (F : Nat) (k71 : (Option Nat) → (Option Nat) → Int32 → Int32 → MH → (Option (Int32 × MH))) : Nat → (Option Nat) → (Option Nat) → (Int32) → (Int32) → (Int32) → (MH) → (Option (Int32 × MH))
  | 0 => fun _ _ _ _ _ _ => none
  | n + 1 => fun v0 v1 v4 v5 v6 h => 
    if (576 : Int32) ≤ v6 then
      k71 v0 v1 v4 v5 h
    else
      b_M_solves_93 F k71 (b_M_solves_82 F k71 n) F v0 v1 v4 v5 v6 (0 : Int32) h
def b_M_solves_71 (F : Nat) : Nat → (Option Nat) → (Option Nat) → (Int32) → (Int32) → (MH) → (Option (Int32 × MH))
  | 0 => fun _ _ _ _ _ => none
  | n + 1 => fun v0 v1 v4 v5 h => 
    if v5 = 0 then
      Option.bind (gfr h v0 [11] 23) fun x2 =>
      Option.bind (f_M_node v1 h) fun x4 =>
      Option.bind (ald h x2 0 x4) fun x6 =>
      if x6 = (100000000 : Int32) then
        some ((-1000000 : Int32), h)
      else
        some (x6, h)
    else
      b_M_solves_82 F (b_M_solves_71 F n) F v0 v1 v4 (0 : Int32) (0 : Int32) h
def b_M_solves_61 (F : Nat) (k3 : (Option Nat) → (Option Nat) → Int32 → Int32 → Int32 → Int32 → MH → (Option (Int32 × MH))) : (Option Nat) → (Option Nat) → (Int32) → (Int32) → (Int32) → (Int32) → (Option Nat) → (Int32) → (Int32) → (MH) → (Option (Int32 × MH)) := fun v0 v1 v2 v3 v4 v5 s0 s1 s2 h => 
  Option.bind (ast h s0 0 s1 s2) fun h1 =>
  k3 v0 v1 v2 v3 v4 (v5 + (1 : Int32)) h1
def b_M_solves_42 (F : Nat) (k3 : (Option Nat) → (Option Nat) → Int32 → Int32 → Int32 → Int32 → MH → (Option (Int32 × MH))) : (Option Nat) → (Option Nat) → (Int32) → (Int32) → (Int32) → (Int32) → (Int32) → (MH) → (Option (Int32 × MH)) := fun v0 v1 v2 v3 v4 v5 s0 h => 
  Option.bind (gfr h v0 [11] 23) fun x1 =>
  if s0 = 0 then
    b_M_solves_61 F k3 v0 v1 v2 v3 v4 v5 x1 v5 (100000000 : Int32) h
  else
    b_M_solves_61 F k3 v0 v1 v2 v3 v4 v5 x1 v5 (0 : Int32) h
def b_M_solves_41 (F : Nat) (k3 : (Option Nat) → (Option Nat) → Int32 → Int32 → Int32 → Int32 → MH → (Option (Int32 × MH))) : (Option Nat) → (Option Nat) → (Int32) → (Int32) → (Int32) → (Int32) → (MH) → (Option (Int32 × MH)) := fun v0 v1 v2 v3 v4 v5 h => 
  b_M_solves_42 F k3 v0 v1 v2 v3 v4 v5 (0 : Int32) h
def b_M_solves_37 (F : Nat) (k3 : (Option Nat) → (Option Nat) → Int32 → Int32 → Int32 → Int32 → MH → (Option (Int32 × MH))) : (Option Nat) → (Option Nat) → (Int32) → (Int32) → (Int32) → (Int32) → (MH) → (Option (Int32 × MH)) := fun v0 v1 v2 v3 v4 v5 h => 
  b_M_solves_42 F k3 v0 v1 v2 v3 v4 v5 (1 : Int32) h
def b_M_solves_3 (F : Nat) : Nat → (Option Nat) → (Option Nat) → (Int32) → (Int32) → (Int32) → (Int32) → (MH) → (Option (Int32 × MH))
  | 0 => fun _ _ _ _ _ _ _ => none
  | n + 1 => fun v0 v1 v2 v3 v4 v5 h => 
    if (576 : Int32) ≤ v5 then
      b_M_solves_71 F F v0 v1 v4 (1 : Int32) h
    else
      if (mj_irem (v5 / (3 : Int32)) (8 : Int32)) = v3 then
        if v2 = (-1000000 : Int32) then
          b_M_solves_37 F (b_M_solves_3 F n) v0 v1 v2 v3 v4 v5 h
        else
          if (v5 / (24 : Int32)) = v2 then
            b_M_solves_37 F (b_M_solves_3 F n) v0 v1 v2 v3 v4 v5 h
          else
            b_M_solves_41 F (b_M_solves_3 F n) v0 v1 v2 v3 v4 v5 h
      else
        b_M_solves_41 F (b_M_solves_3 F n) v0 v1 v2 v3 v4 v5 h
def f_M_solves (F : Nat) (v0 : Option Nat) (v1 : Option Nat) (v2 : Int32) (v3 : Int32) (v4 : Int32) (h : MH) : Option (Int32 × MH) :=
  b_M_solves_3 F F v0 v1 v2 v3 v4 (0 : Int32) h
set_option maxHeartbeats 4000000 in
set_option maxRecDepth 200000 in
theorem p_M_solves_234 (F : Nat) {h0 : MH} (k71 : (Option Nat) → (Option Nat) → Int32 → Int32 → MH → (Option (Int32 × MH))) (k82 : (Option Nat) → (Option Nat) → Int32 → Int32 → Int32 → MH → (Option (Int32 × MH))) (k93 : (Option Nat) → (Option Nat) → Int32 → Int32 → Int32 → Int32 → MH → (Option (Int32 × MH))) (k104 : (Option Nat) → (Option Nat) → Int32 → Int32 → Int32 → Int32 → Int32 → MH → (Option (Int32 × MH))) (hk71 : ∀ (v0 : Option Nat) (v1 : Option Nat) (v4 : Int32) (v5 : Int32) (h : MH) (r : (Int32 × MH)), k71 v0 v1 v4 v5 h = some r → Rt mi_M_solves 7 h0 71 [(0, va_rf v0), (1, va_rf v1), (4, .int v4), (5, .int v5)] [] h (some (.int r.1)) r.2) (hk82 : ∀ (v0 : Option Nat) (v1 : Option Nat) (v4 : Int32) (v5 : Int32) (v6 : Int32) (h : MH) (r : (Int32 × MH)), k82 v0 v1 v4 v5 v6 h = some r → Rt mi_M_solves 7 h0 82 [(0, va_rf v0), (1, va_rf v1), (4, .int v4), (5, .int v5), (6, .int v6)] [] h (some (.int r.1)) r.2) (hk93 : ∀ (v0 : Option Nat) (v1 : Option Nat) (v4 : Int32) (v5 : Int32) (v6 : Int32) (v7 : Int32) (h : MH) (r : (Int32 × MH)), k93 v0 v1 v4 v5 v6 v7 h = some r → Rt mi_M_solves 7 h0 93 [(0, va_rf v0), (1, va_rf v1), (4, .int v4), (5, .int v5), (6, .int v6), (7, .int v7)] [] h (some (.int r.1)) r.2) (hk104 : ∀ (v0 : Option Nat) (v1 : Option Nat) (v4 : Int32) (v5 : Int32) (v6 : Int32) (v7 : Int32) (v8 : Int32) (h : MH) (r : (Int32 × MH)), k104 v0 v1 v4 v5 v6 v7 v8 h = some r → Rt mi_M_solves 7 h0 104 [(0, va_rf v0), (1, va_rf v1), (4, .int v4), (5, .int v5), (6, .int v6), (7, .int v7), (8, .int v8)] [] h (some (.int r.1)) r.2) (v0 : Option Nat) (v1 : Option Nat) (v4 : Int32) (v5 : Int32) (v6 : Int32) (v7 : Int32) (v8 : Int32) (h : MH) (r : (Int32 × MH)) : b_M_solves_234 F k71 k82 k93 k104  v0 v1 v4 v5 v6 v7 v8 h = some r → Rt mi_M_solves 7 h0 234 [(0, va_rf v0), (1, va_rf v1), (4, .int v4), (5, .int v5), (6, .int v6), (7, .int v7), (8, .int v8)] [] h (some (.int r.1)) r.2 := by
  intro hyp
  unfold b_M_solves_234 at hyp
  refine rt_st (pc1 := 104) (fun _ _ B => go_iinc (v := (v8 + (1 : Int32))) (lv1 := [(8, .int (v8 + (1 : Int32))), (0, va_rf v0), (1, va_rf v1), (4, .int v4), (5, .int v5), (6, .int v6), (7, .int v7)]) 6 d_M_solves_234 rfl rfl (by decide) rfl (go_goto 104 d_M_solves_237 rfl B)) ?_
  refine rt_sub [1, 2, 3, 4, 5, 6, 0] (lv1 := [(0, va_rf v0), (1, va_rf v1), (4, .int v4), (5, .int v5), (6, .int v6), (7, .int v7), (8, .int (v8 + (1 : Int32)))]) rfl ?_
  exact hk104 _ _ _ _ _ _ _ _ _ hyp
set_option maxHeartbeats 4000000 in
set_option maxRecDepth 200000 in
theorem p_M_solves_233 (F : Nat) {h0 : MH} (k71 : (Option Nat) → (Option Nat) → Int32 → Int32 → MH → (Option (Int32 × MH))) (k82 : (Option Nat) → (Option Nat) → Int32 → Int32 → Int32 → MH → (Option (Int32 × MH))) (k93 : (Option Nat) → (Option Nat) → Int32 → Int32 → Int32 → Int32 → MH → (Option (Int32 × MH))) (k104 : (Option Nat) → (Option Nat) → Int32 → Int32 → Int32 → Int32 → Int32 → MH → (Option (Int32 × MH))) (hk71 : ∀ (v0 : Option Nat) (v1 : Option Nat) (v4 : Int32) (v5 : Int32) (h : MH) (r : (Int32 × MH)), k71 v0 v1 v4 v5 h = some r → Rt mi_M_solves 7 h0 71 [(0, va_rf v0), (1, va_rf v1), (4, .int v4), (5, .int v5)] [] h (some (.int r.1)) r.2) (hk82 : ∀ (v0 : Option Nat) (v1 : Option Nat) (v4 : Int32) (v5 : Int32) (v6 : Int32) (h : MH) (r : (Int32 × MH)), k82 v0 v1 v4 v5 v6 h = some r → Rt mi_M_solves 7 h0 82 [(0, va_rf v0), (1, va_rf v1), (4, .int v4), (5, .int v5), (6, .int v6)] [] h (some (.int r.1)) r.2) (hk93 : ∀ (v0 : Option Nat) (v1 : Option Nat) (v4 : Int32) (v5 : Int32) (v6 : Int32) (v7 : Int32) (h : MH) (r : (Int32 × MH)), k93 v0 v1 v4 v5 v6 v7 h = some r → Rt mi_M_solves 7 h0 93 [(0, va_rf v0), (1, va_rf v1), (4, .int v4), (5, .int v5), (6, .int v6), (7, .int v7)] [] h (some (.int r.1)) r.2) (hk104 : ∀ (v0 : Option Nat) (v1 : Option Nat) (v4 : Int32) (v5 : Int32) (v6 : Int32) (v7 : Int32) (v8 : Int32) (h : MH) (r : (Int32 × MH)), k104 v0 v1 v4 v5 v6 v7 v8 h = some r → Rt mi_M_solves 7 h0 104 [(0, va_rf v0), (1, va_rf v1), (4, .int v4), (5, .int v5), (6, .int v6), (7, .int v7), (8, .int v8)] [] h (some (.int r.1)) r.2) (v0 : Option Nat) (v1 : Option Nat) (v4 : Int32) (v5 : Int32) (v6 : Int32) (v7 : Int32) (v8 : Int32) (s0 : Option Nat) (s1 : Int32) (s2 : Int32) (h : MH) (r : (Int32 × MH)) : b_M_solves_233 F k71 k82 k93 k104  v0 v1 v4 v5 v6 v7 v8 s0 s1 s2 h = some r → Rt mi_M_solves 7 h0 233 [(0, va_rf v0), (1, va_rf v1), (4, .int v4), (5, .int v5), (6, .int v6), (7, .int v7), (8, .int v8)] [.int s2, .int s1, va_rf s0] h (some (.int r.1)) r.2 := by
  intro hyp
  unfold b_M_solves_233 at hyp
  obtain ⟨h1, e2, hyp⟩ := Option.bind_eq_some_iff.mp hyp
  refine rt_st (pc1 := 234) (fun _ _ B => go_iast d_M_solves_233 e2 B) ?_
  exact p_M_solves_234 F k71 k82 k93 k104 hk71 hk82 hk93 hk104 _ _ _ _ _ _ _ _ r hyp
set_option maxHeartbeats 4000000 in
set_option maxRecDepth 200000 in
theorem p_M_solves_201 (F : Nat) {h0 : MH} (k71 : (Option Nat) → (Option Nat) → Int32 → Int32 → MH → (Option (Int32 × MH))) (k82 : (Option Nat) → (Option Nat) → Int32 → Int32 → Int32 → MH → (Option (Int32 × MH))) (k93 : (Option Nat) → (Option Nat) → Int32 → Int32 → Int32 → Int32 → MH → (Option (Int32 × MH))) (k104 : (Option Nat) → (Option Nat) → Int32 → Int32 → Int32 → Int32 → Int32 → MH → (Option (Int32 × MH))) (hk71 : ∀ (v0 : Option Nat) (v1 : Option Nat) (v4 : Int32) (v5 : Int32) (h : MH) (r : (Int32 × MH)), k71 v0 v1 v4 v5 h = some r → Rt mi_M_solves 7 h0 71 [(0, va_rf v0), (1, va_rf v1), (4, .int v4), (5, .int v5)] [] h (some (.int r.1)) r.2) (hk82 : ∀ (v0 : Option Nat) (v1 : Option Nat) (v4 : Int32) (v5 : Int32) (v6 : Int32) (h : MH) (r : (Int32 × MH)), k82 v0 v1 v4 v5 v6 h = some r → Rt mi_M_solves 7 h0 82 [(0, va_rf v0), (1, va_rf v1), (4, .int v4), (5, .int v5), (6, .int v6)] [] h (some (.int r.1)) r.2) (hk93 : ∀ (v0 : Option Nat) (v1 : Option Nat) (v4 : Int32) (v5 : Int32) (v6 : Int32) (v7 : Int32) (h : MH) (r : (Int32 × MH)), k93 v0 v1 v4 v5 v6 v7 h = some r → Rt mi_M_solves 7 h0 93 [(0, va_rf v0), (1, va_rf v1), (4, .int v4), (5, .int v5), (6, .int v6), (7, .int v7)] [] h (some (.int r.1)) r.2) (hk104 : ∀ (v0 : Option Nat) (v1 : Option Nat) (v4 : Int32) (v5 : Int32) (v6 : Int32) (v7 : Int32) (v8 : Int32) (h : MH) (r : (Int32 × MH)), k104 v0 v1 v4 v5 v6 v7 v8 h = some r → Rt mi_M_solves 7 h0 104 [(0, va_rf v0), (1, va_rf v1), (4, .int v4), (5, .int v5), (6, .int v6), (7, .int v7), (8, .int v8)] [] h (some (.int r.1)) r.2) (v0 : Option Nat) (v1 : Option Nat) (v4 : Int32) (v6 : Int32) (v7 : Int32) (v8 : Int32) (v10 : Int32) (s0 : Int32) (h : MH) (r : (Int32 × MH)) : b_M_solves_201 F k71 k82 k93 k104  v0 v1 v4 v6 v7 v8 v10 s0 h = some r → Rt mi_M_solves 7 h0 201 [(0, va_rf v0), (1, va_rf v1), (4, .int v4), (6, .int v6), (7, .int v7), (8, .int v8), (10, .int v10)] [.int s0] h (some (.int r.1)) r.2 := by
  intro hyp
  unfold b_M_solves_201 at hyp
  obtain ⟨x1, e2, hyp⟩ := Option.bind_eq_some_iff.mp hyp
  obtain ⟨x3, e4, hyp⟩ := Option.bind_eq_some_iff.mp hyp
  obtain ⟨x5, e6, hyp⟩ := Option.bind_eq_some_iff.mp hyp
  refine rt_st (pc1 := 218) (fun _ _ B => go_istore (lv1 := [(5, .int s0), (0, va_rf v0), (1, va_rf v1), (4, .int v4), (6, .int v6), (7, .int v7), (8, .int v8), (10, .int v10)]) d_M_solves_201 (by decide) rfl (go_aload_n 1 d_M_solves_203 rfl (go_gfr d_M_solves_204 fd_11_23 w1012 e2 (go_iload 4 d_M_solves_207 rfl (go_iload 7 d_M_solves_209 rfl (go_aload_n 1 d_M_solves_211 rfl (go_gfr d_M_solves_212 fd_11_23 w1012 e4 (go_iload 4 d_M_solves_215 rfl (go_iald d_M_solves_217 e6 B))))))))) ?_
  by_cases c7 : x5 ≤ v10
  · replace hyp := (if_pos c7).symm.trans hyp
    obtain ⟨x8, e9, hyp⟩ := Option.bind_eq_some_iff.mp hyp
    obtain ⟨x10, e11, hyp⟩ := Option.bind_eq_some_iff.mp hyp
    refine rt_st (pc1 := 233) (fun _ _ B => go_icmp_ge_t 226 d_M_solves_218 rfl c7 (go_aload_n 1 d_M_solves_226 rfl (go_gfr d_M_solves_227 fd_11_23 w1012 e9 (go_iload 4 d_M_solves_230 rfl (go_iald d_M_solves_232 e11 B))))) ?_
    refine rt_sub [1, 2, 3, 0, 4, 5, 6] (lv1 := [(0, va_rf v0), (1, va_rf v1), (4, .int v4), (5, .int s0), (6, .int v6), (7, .int v7), (8, .int v8)]) rfl ?_
    exact p_M_solves_233 F k71 k82 k93 k104 hk71 hk82 hk93 hk104 _ _ _ _ _ _ _ _ _ _ _ r hyp
  · replace hyp := (if_neg c7).symm.trans hyp
    refine rt_st (pc1 := 233) (fun _ _ B => go_icmp_ge_f d_M_solves_218 rfl c7 (go_iload 7 d_M_solves_221 rfl (go_goto 233 d_M_solves_223 rfl B))) ?_
    refine rt_sub [1, 2, 3, 0, 4, 5, 6] (lv1 := [(0, va_rf v0), (1, va_rf v1), (4, .int v4), (5, .int s0), (6, .int v6), (7, .int v7), (8, .int v8)]) rfl ?_
    exact p_M_solves_233 F k71 k82 k93 k104 hk71 hk82 hk93 hk104 _ _ _ _ _ _ _ _ _ _ _ r hyp
set_option maxHeartbeats 4000000 in
set_option maxRecDepth 200000 in
theorem p_M_solves_196 (F : Nat) {h0 : MH} (k71 : (Option Nat) → (Option Nat) → Int32 → Int32 → MH → (Option (Int32 × MH))) (k82 : (Option Nat) → (Option Nat) → Int32 → Int32 → Int32 → MH → (Option (Int32 × MH))) (k93 : (Option Nat) → (Option Nat) → Int32 → Int32 → Int32 → Int32 → MH → (Option (Int32 × MH))) (k104 : (Option Nat) → (Option Nat) → Int32 → Int32 → Int32 → Int32 → Int32 → MH → (Option (Int32 × MH))) (hk71 : ∀ (v0 : Option Nat) (v1 : Option Nat) (v4 : Int32) (v5 : Int32) (h : MH) (r : (Int32 × MH)), k71 v0 v1 v4 v5 h = some r → Rt mi_M_solves 7 h0 71 [(0, va_rf v0), (1, va_rf v1), (4, .int v4), (5, .int v5)] [] h (some (.int r.1)) r.2) (hk82 : ∀ (v0 : Option Nat) (v1 : Option Nat) (v4 : Int32) (v5 : Int32) (v6 : Int32) (h : MH) (r : (Int32 × MH)), k82 v0 v1 v4 v5 v6 h = some r → Rt mi_M_solves 7 h0 82 [(0, va_rf v0), (1, va_rf v1), (4, .int v4), (5, .int v5), (6, .int v6)] [] h (some (.int r.1)) r.2) (hk93 : ∀ (v0 : Option Nat) (v1 : Option Nat) (v4 : Int32) (v5 : Int32) (v6 : Int32) (v7 : Int32) (h : MH) (r : (Int32 × MH)), k93 v0 v1 v4 v5 v6 v7 h = some r → Rt mi_M_solves 7 h0 93 [(0, va_rf v0), (1, va_rf v1), (4, .int v4), (5, .int v5), (6, .int v6), (7, .int v7)] [] h (some (.int r.1)) r.2) (hk104 : ∀ (v0 : Option Nat) (v1 : Option Nat) (v4 : Int32) (v5 : Int32) (v6 : Int32) (v7 : Int32) (v8 : Int32) (h : MH) (r : (Int32 × MH)), k104 v0 v1 v4 v5 v6 v7 v8 h = some r → Rt mi_M_solves 7 h0 104 [(0, va_rf v0), (1, va_rf v1), (4, .int v4), (5, .int v5), (6, .int v6), (7, .int v7), (8, .int v8)] [] h (some (.int r.1)) r.2) (v0 : Option Nat) (v1 : Option Nat) (v4 : Int32) (v6 : Int32) (v7 : Int32) (v8 : Int32) (v10 : Int32) (h : MH) (r : (Int32 × MH)) : b_M_solves_196 F k71 k82 k93 k104  v0 v1 v4 v6 v7 v8 v10 h = some r → Rt mi_M_solves 7 h0 196 [(0, va_rf v0), (1, va_rf v1), (4, .int v4), (6, .int v6), (7, .int v7), (8, .int v8), (10, .int v10)] [] h (some (.int r.1)) r.2 := by
  intro hyp
  unfold b_M_solves_196 at hyp
  refine rt_st (pc1 := 201) (fun _ _ B => go_iconst (v := (1 : Int32)) d_M_solves_196 (by decide) (go_goto 201 d_M_solves_197 rfl B)) ?_
  exact p_M_solves_201 F k71 k82 k93 k104 hk71 hk82 hk93 hk104 _ _ _ _ _ _ _ _ _ r hyp
set_option maxHeartbeats 4000000 in
set_option maxRecDepth 200000 in
theorem p_M_solves_177 (F : Nat) {h0 : MH} (k71 : (Option Nat) → (Option Nat) → Int32 → Int32 → MH → (Option (Int32 × MH))) (k82 : (Option Nat) → (Option Nat) → Int32 → Int32 → Int32 → MH → (Option (Int32 × MH))) (k93 : (Option Nat) → (Option Nat) → Int32 → Int32 → Int32 → Int32 → MH → (Option (Int32 × MH))) (k104 : (Option Nat) → (Option Nat) → Int32 → Int32 → Int32 → Int32 → Int32 → MH → (Option (Int32 × MH))) (hk71 : ∀ (v0 : Option Nat) (v1 : Option Nat) (v4 : Int32) (v5 : Int32) (h : MH) (r : (Int32 × MH)), k71 v0 v1 v4 v5 h = some r → Rt mi_M_solves 7 h0 71 [(0, va_rf v0), (1, va_rf v1), (4, .int v4), (5, .int v5)] [] h (some (.int r.1)) r.2) (hk82 : ∀ (v0 : Option Nat) (v1 : Option Nat) (v4 : Int32) (v5 : Int32) (v6 : Int32) (h : MH) (r : (Int32 × MH)), k82 v0 v1 v4 v5 v6 h = some r → Rt mi_M_solves 7 h0 82 [(0, va_rf v0), (1, va_rf v1), (4, .int v4), (5, .int v5), (6, .int v6)] [] h (some (.int r.1)) r.2) (hk93 : ∀ (v0 : Option Nat) (v1 : Option Nat) (v4 : Int32) (v5 : Int32) (v6 : Int32) (v7 : Int32) (h : MH) (r : (Int32 × MH)), k93 v0 v1 v4 v5 v6 v7 h = some r → Rt mi_M_solves 7 h0 93 [(0, va_rf v0), (1, va_rf v1), (4, .int v4), (5, .int v5), (6, .int v6), (7, .int v7)] [] h (some (.int r.1)) r.2) (hk104 : ∀ (v0 : Option Nat) (v1 : Option Nat) (v4 : Int32) (v5 : Int32) (v6 : Int32) (v7 : Int32) (v8 : Int32) (h : MH) (r : (Int32 × MH)), k104 v0 v1 v4 v5 v6 v7 v8 h = some r → Rt mi_M_solves 7 h0 104 [(0, va_rf v0), (1, va_rf v1), (4, .int v4), (5, .int v5), (6, .int v6), (7, .int v7), (8, .int v8)] [] h (some (.int r.1)) r.2) (v0 : Option Nat) (v1 : Option Nat) (v4 : Int32) (v5 : Int32) (v6 : Int32) (v7 : Int32) (v8 : Int32) (s0 : Int32) (h : MH) (r : (Int32 × MH)) : b_M_solves_177 F k71 k82 k93 k104  v0 v1 v4 v5 v6 v7 v8 s0 h = some r → Rt mi_M_solves 7 h0 177 [(0, va_rf v0), (1, va_rf v1), (4, .int v4), (5, .int v5), (6, .int v6), (7, .int v7), (8, .int v8)] [.int s0] h (some (.int r.1)) r.2 := by
  intro hyp
  unfold b_M_solves_177 at hyp
  refine rt_st (pc1 := 181) (fun _ _ B => go_istore (lv1 := [(10, .int s0), (0, va_rf v0), (1, va_rf v1), (4, .int v4), (5, .int v5), (6, .int v6), (7, .int v7), (8, .int v8)]) d_M_solves_177 (by decide) rfl (go_iload 4 d_M_solves_179 rfl B)) ?_
  by_cases c1 : v5 = 0
  · replace hyp := (if_pos c1).symm.trans hyp
    obtain ⟨x2, e3, hyp⟩ := Option.bind_eq_some_iff.mp hyp
    obtain ⟨x4, e5, hyp⟩ := Option.bind_eq_some_iff.mp hyp
    refine rt_st (pc1 := 193) (fun _ _ B => go_if_ne_f d_M_solves_181 rfl c1 (go_iload 0 d_M_solves_184 rfl (go_aload_n 1 d_M_solves_186 rfl (go_gfr d_M_solves_187 fd_11_23 w1012 e3 (go_iload 5 d_M_solves_190 rfl (go_iald d_M_solves_192 e5 B)))))) ?_
    by_cases c6 : x4 ≤ s0
    · replace hyp := (if_pos c6).symm.trans hyp
      refine rt_st (pc1 := 201) (fun _ _ B => go_icmp_ge_t 200 d_M_solves_193 rfl c6 (go_iconst (v := (0 : Int32)) d_M_solves_200 (by decide) B)) ?_
      refine rt_sub [1, 2, 3, 5, 6, 7, 0] (lv1 := [(0, va_rf v0), (1, va_rf v1), (4, .int v4), (6, .int v6), (7, .int v7), (8, .int v8), (10, .int s0)]) rfl ?_
      exact p_M_solves_201 F k71 k82 k93 k104 hk71 hk82 hk93 hk104 _ _ _ _ _ _ _ _ _ r hyp
    · replace hyp := (if_neg c6).symm.trans hyp
      refine rt_st (pc1 := 196) (fun _ _ B => go_icmp_ge_f d_M_solves_193 rfl c6 B) ?_
      refine rt_sub [1, 2, 3, 5, 6, 7, 0] (lv1 := [(0, va_rf v0), (1, va_rf v1), (4, .int v4), (6, .int v6), (7, .int v7), (8, .int v8), (10, .int s0)]) rfl ?_
      exact p_M_solves_196 F k71 k82 k93 k104 hk71 hk82 hk93 hk104 _ _ _ _ _ _ _ _ r hyp
  · replace hyp := (if_neg c1).symm.trans hyp
    refine rt_st (pc1 := 196) (fun _ _ B => go_if_ne_t 196 d_M_solves_181 rfl c1 B) ?_
    refine rt_sub [1, 2, 3, 5, 6, 7, 0] (lv1 := [(0, va_rf v0), (1, va_rf v1), (4, .int v4), (6, .int v6), (7, .int v7), (8, .int v8), (10, .int s0)]) rfl ?_
    exact p_M_solves_196 F k71 k82 k93 k104 hk71 hk82 hk93 hk104 _ _ _ _ _ _ _ _ r hyp
set_option maxHeartbeats 4000000 in
set_option maxRecDepth 200000 in
theorem p_M_solves_104 (F : Nat) {h0 : MH} (k71 : (Option Nat) → (Option Nat) → Int32 → Int32 → MH → (Option (Int32 × MH))) (k82 : (Option Nat) → (Option Nat) → Int32 → Int32 → Int32 → MH → (Option (Int32 × MH))) (k93 : (Option Nat) → (Option Nat) → Int32 → Int32 → Int32 → Int32 → MH → (Option (Int32 × MH))) (hk71 : ∀ (v0 : Option Nat) (v1 : Option Nat) (v4 : Int32) (v5 : Int32) (h : MH) (r : (Int32 × MH)), k71 v0 v1 v4 v5 h = some r → Rt mi_M_solves 7 h0 71 [(0, va_rf v0), (1, va_rf v1), (4, .int v4), (5, .int v5)] [] h (some (.int r.1)) r.2) (hk82 : ∀ (v0 : Option Nat) (v1 : Option Nat) (v4 : Int32) (v5 : Int32) (v6 : Int32) (h : MH) (r : (Int32 × MH)), k82 v0 v1 v4 v5 v6 h = some r → Rt mi_M_solves 7 h0 82 [(0, va_rf v0), (1, va_rf v1), (4, .int v4), (5, .int v5), (6, .int v6)] [] h (some (.int r.1)) r.2) (hk93 : ∀ (v0 : Option Nat) (v1 : Option Nat) (v4 : Int32) (v5 : Int32) (v6 : Int32) (v7 : Int32) (h : MH) (r : (Int32 × MH)), k93 v0 v1 v4 v5 v6 v7 h = some r → Rt mi_M_solves 7 h0 93 [(0, va_rf v0), (1, va_rf v1), (4, .int v4), (5, .int v5), (6, .int v6), (7, .int v7)] [] h (some (.int r.1)) r.2) : ∀ (n : Nat) (v0 : Option Nat) (v1 : Option Nat) (v4 : Int32) (v5 : Int32) (v6 : Int32) (v7 : Int32) (v8 : Int32) (h : MH) (r : (Int32 × MH)), b_M_solves_104 F k71 k82 k93  n v0 v1 v4 v5 v6 v7 v8 h = some r → Rt mi_M_solves 7 h0 104 [(0, va_rf v0), (1, va_rf v1), (4, .int v4), (5, .int v5), (6, .int v6), (7, .int v7), (8, .int v8)] [] h (some (.int r.1)) r.2 := by
  intro n
  induction n with
  | zero =>
    intro v0 v1 v4 v5 v6 v7 v8 h r hyp
    cases hyp
  | succ n ih =>
    intro v0 v1 v4 v5 v6 v7 v8 h r hyp
    unfold b_M_solves_104 at hyp
    refine rt_st (pc1 := 108) (fun _ _ B => go_iload 6 d_M_solves_104 rfl (go_bipush (v := (8 : Int32)) d_M_solves_106 (by decide) B)) ?_
    by_cases c1 : (8 : Int32) ≤ v8
    · replace hyp := (if_pos c1).symm.trans hyp
      refine rt_st (pc1 := 93) (fun _ _ B => go_icmp_ge_t 240 d_M_solves_108 rfl c1 (go_iinc (v := (v7 + (1 : Int32))) (lv1 := [(7, .int (v7 + (1 : Int32))), (0, va_rf v0), (1, va_rf v1), (4, .int v4), (5, .int v5), (6, .int v6), (8, .int v8)]) 5 d_M_solves_240 rfl rfl (by decide) rfl (go_goto 93 d_M_solves_243 rfl B))) ?_
      refine rt_sub [1, 2, 3, 4, 5, 0] (lv1 := [(0, va_rf v0), (1, va_rf v1), (4, .int v4), (5, .int v5), (6, .int v6), (7, .int (v7 + (1 : Int32)))]) rfl ?_
      exact hk93 _ _ _ _ _ _ _ _ hyp
    · replace hyp := (if_neg c1).symm.trans hyp
      obtain ⟨x2, e3, hyp⟩ := Option.bind_eq_some_iff.mp hyp
      obtain ⟨x4, e5, hyp⟩ := Option.bind_eq_some_iff.mp hyp
      refine rt_st (pc1 := 118) (fun _ _ B => go_icmp_ge_f d_M_solves_108 rfl c1 (go_aload_n 0 d_M_solves_111 rfl (go_gfr d_M_solves_112 fd_11_23 w1012 e3 (go_iload 4 d_M_solves_115 rfl (go_iald d_M_solves_117 e5 B))))) ?_
      by_cases c6 : x4 ≤ 0
      · replace hyp := (if_pos c6).symm.trans hyp
        refine rt_st (pc1 := 234) (fun _ _ B => go_if_le_t 234 d_M_solves_118 rfl c6 B) ?_
        exact p_M_solves_234 F k71 k82 k93 (b_M_solves_104 F k71 k82 k93 n) hk71 hk82 hk93 (fun a0 a1 a2 a3 a4 a5 a6 a7 r hyp => ih a0 a1 a2 a3 a4 a5 a6 a7 r hyp) _ _ _ _ _ _ _ _ r hyp
      · replace hyp := (if_neg c6).symm.trans hyp
        obtain ⟨x7, e8, hyp⟩ := Option.bind_eq_some_iff.mp hyp
        refine rt_st (pc1 := 132) (fun _ _ B => go_if_le_f d_M_solves_118 rfl c6 (go_aload_n 1 d_M_solves_121 rfl (go_iconst (v := (5 : Int32)) d_M_solves_122 (by decide) (go_iload 5 d_M_solves_123 rfl (go_iadd d_M_solves_125 (go_iald d_M_solves_126 e8 (go_iload 6 d_M_solves_127 rfl (go_callS1 (st := []) [.int x7, .int v8] (t_M_makes x7 v8 h) mm_M_makes (by decide) d_M_solves_129 w1185 w1186 rfl (Nat.le_of_ble_eq_true rfl) rfl B)))))))) ?_
        by_cases c9 : (f_M_makes x7 v8) = 0
        · replace hyp := (if_pos c9).symm.trans hyp
          refine rt_st (pc1 := 234) (fun _ _ B => go_if_eq_t 234 d_M_solves_132 rfl c9 B) ?_
          exact p_M_solves_234 F k71 k82 k93 (b_M_solves_104 F k71 k82 k93 n) hk71 hk82 hk93 (fun a0 a1 a2 a3 a4 a5 a6 a7 r hyp => ih a0 a1 a2 a3 a4 a5 a6 a7 r hyp) _ _ _ _ _ _ _ _ r hyp
        · replace hyp := (if_neg c9).symm.trans hyp
          obtain ⟨x10, e11, hyp⟩ := Option.bind_eq_some_iff.mp hyp
          refine rt_st (pc1 := 153) (fun _ _ B => go_if_eq_f d_M_solves_132 rfl c9 (go_aload_n 1 d_M_solves_135 rfl (go_iload 4 d_M_solves_136 rfl (go_iload 5 d_M_solves_138 rfl (go_iload 6 d_M_solves_140 rfl (go_iload 2 d_M_solves_142 rfl (go_callS1 (st := []) [va_rf v1, .int v6, .int v7, .int v8, .int v4] (t_M_behind v1 v6 v7 v8 v4 h _ e11) mm_M_behind (by decide) d_M_solves_144 w1249 w1250 rfl (Nat.le_of_ble_eq_true rfl) rfl (go_istore (lv1 := [(9, .int x10.1), (0, va_rf v0), (1, va_rf v1), (4, .int v4), (5, .int v5), (6, .int v6), (7, .int v7), (8, .int v8)]) d_M_solves_147 (by decide) rfl (go_iload 0 d_M_solves_149 rfl (go_ldc (v := (-1000000 : Int32)) d_M_solves_151 w1239 B)))))))))) ?_
          by_cases c12 : x10.1 = (-1000000 : Int32)
          · replace hyp := (if_pos c12).symm.trans hyp
            refine rt_st (pc1 := 177) (fun _ _ B => go_icmp_ne_f d_M_solves_153 rfl c12 (go_ldc (v := (100000000 : Int32)) d_M_solves_156 w1248 (go_goto 177 d_M_solves_158 rfl B))) ?_
            refine rt_sub [1, 2, 3, 4, 5, 6, 7] (lv1 := [(0, va_rf v0), (1, va_rf v1), (4, .int v4), (5, .int v5), (6, .int v6), (7, .int v7), (8, .int v8)]) rfl ?_
            exact p_M_solves_177 F k71 k82 k93 (b_M_solves_104 F k71 k82 k93 n) hk71 hk82 hk93 (fun a0 a1 a2 a3 a4 a5 a6 a7 r hyp => ih a0 a1 a2 a3 a4 a5 a6 a7 r hyp) _ _ _ _ _ _ _ _ _ r hyp
          · replace hyp := (if_neg c12).symm.trans hyp
            obtain ⟨x13, e14, hyp⟩ := Option.bind_eq_some_iff.mp hyp
            obtain ⟨x15, e16, hyp⟩ := Option.bind_eq_some_iff.mp hyp
            obtain ⟨x17, e18, hyp⟩ := Option.bind_eq_some_iff.mp hyp
            refine rt_st (pc1 := 177) (fun _ _ B => go_icmp_ne_t 161 d_M_solves_153 rfl c12 (go_aload_n 1 d_M_solves_161 rfl (go_gfr d_M_solves_162 fd_11_23 w1012 e14 (go_iload 0 d_M_solves_165 rfl (go_iald d_M_solves_167 e16 (go_aload_n 2 d_M_solves_168 rfl (go_iload 6 d_M_solves_169 rfl (go_iload 7 d_M_solves_171 rfl (go_callS1 (st := [.int x15]) [va_rf v1, .int v7, .int v8] (t_M_minutesOf v1 v7 v8 x10.2 _ e18) mm_M_minutesOf (by decide) d_M_solves_173 w1201 w1202 rfl (Nat.le_of_ble_eq_true rfl) rfl (go_iadd d_M_solves_176 B)))))))))) ?_
            refine rt_sub [1, 2, 3, 4, 5, 6, 7] (lv1 := [(0, va_rf v0), (1, va_rf v1), (4, .int v4), (5, .int v5), (6, .int v6), (7, .int v7), (8, .int v8)]) rfl ?_
            exact p_M_solves_177 F k71 k82 k93 (b_M_solves_104 F k71 k82 k93 n) hk71 hk82 hk93 (fun a0 a1 a2 a3 a4 a5 a6 a7 r hyp => ih a0 a1 a2 a3 a4 a5 a6 a7 r hyp) _ _ _ _ _ _ _ _ _ r hyp
set_option maxHeartbeats 4000000 in
set_option maxRecDepth 200000 in
theorem p_M_solves_93 (F : Nat) {h0 : MH} (k71 : (Option Nat) → (Option Nat) → Int32 → Int32 → MH → (Option (Int32 × MH))) (k82 : (Option Nat) → (Option Nat) → Int32 → Int32 → Int32 → MH → (Option (Int32 × MH))) (hk71 : ∀ (v0 : Option Nat) (v1 : Option Nat) (v4 : Int32) (v5 : Int32) (h : MH) (r : (Int32 × MH)), k71 v0 v1 v4 v5 h = some r → Rt mi_M_solves 7 h0 71 [(0, va_rf v0), (1, va_rf v1), (4, .int v4), (5, .int v5)] [] h (some (.int r.1)) r.2) (hk82 : ∀ (v0 : Option Nat) (v1 : Option Nat) (v4 : Int32) (v5 : Int32) (v6 : Int32) (h : MH) (r : (Int32 × MH)), k82 v0 v1 v4 v5 v6 h = some r → Rt mi_M_solves 7 h0 82 [(0, va_rf v0), (1, va_rf v1), (4, .int v4), (5, .int v5), (6, .int v6)] [] h (some (.int r.1)) r.2) : ∀ (n : Nat) (v0 : Option Nat) (v1 : Option Nat) (v4 : Int32) (v5 : Int32) (v6 : Int32) (v7 : Int32) (h : MH) (r : (Int32 × MH)), b_M_solves_93 F k71 k82  n v0 v1 v4 v5 v6 v7 h = some r → Rt mi_M_solves 7 h0 93 [(0, va_rf v0), (1, va_rf v1), (4, .int v4), (5, .int v5), (6, .int v6), (7, .int v7)] [] h (some (.int r.1)) r.2 := by
  intro n
  induction n with
  | zero =>
    intro v0 v1 v4 v5 v6 v7 h r hyp
    cases hyp
  | succ n ih =>
    intro v0 v1 v4 v5 v6 v7 h r hyp
    unfold b_M_solves_93 at hyp
    obtain ⟨x1, e2, hyp⟩ := Option.bind_eq_some_iff.mp hyp
    refine rt_st (pc1 := 98) (fun _ _ B => go_iload 5 d_M_solves_93 rfl (go_aload_n 1 d_M_solves_95 rfl (go_iconst (v := (4 : Int32)) d_M_solves_96 (by decide) (go_iald d_M_solves_97 e2 B)))) ?_
    by_cases c3 : x1 ≤ v7
    · replace hyp := (if_pos c3).symm.trans hyp
      refine rt_st (pc1 := 82) (fun _ _ B => go_icmp_ge_t 246 d_M_solves_98 rfl c3 (go_iinc (v := (v6 + (1 : Int32))) (lv1 := [(6, .int (v6 + (1 : Int32))), (0, va_rf v0), (1, va_rf v1), (4, .int v4), (5, .int v5), (7, .int v7)]) 4 d_M_solves_246 rfl rfl (by decide) rfl (go_goto 82 d_M_solves_249 rfl B))) ?_
      refine rt_sub [1, 2, 3, 4, 0] (lv1 := [(0, va_rf v0), (1, va_rf v1), (4, .int v4), (5, .int v5), (6, .int (v6 + (1 : Int32)))]) rfl ?_
      exact hk82 _ _ _ _ _ _ _ hyp
    · replace hyp := (if_neg c3).symm.trans hyp
      refine rt_st (pc1 := 104) (fun _ _ B => go_icmp_ge_f d_M_solves_98 rfl c3 (go_iconst (v := (0 : Int32)) d_M_solves_101 (by decide) (go_istore (lv1 := [(8, .int (0 : Int32)), (0, va_rf v0), (1, va_rf v1), (4, .int v4), (5, .int v5), (6, .int v6), (7, .int v7)]) d_M_solves_102 (by decide) rfl B))) ?_
      refine rt_sub [1, 2, 3, 4, 5, 6, 0] (lv1 := [(0, va_rf v0), (1, va_rf v1), (4, .int v4), (5, .int v5), (6, .int v6), (7, .int v7), (8, .int (0 : Int32))]) rfl ?_
      exact p_M_solves_104 F k71 k82 (b_M_solves_93 F k71 k82 n) hk71 hk82 (fun a0 a1 a2 a3 a4 a5 a6 r hyp => ih a0 a1 a2 a3 a4 a5 a6 r hyp) F _ _ _ _ _ _ _ _ r hyp
set_option maxHeartbeats 4000000 in
set_option maxRecDepth 200000 in
theorem p_M_solves_82 (F : Nat) {h0 : MH} (k71 : (Option Nat) → (Option Nat) → Int32 → Int32 → MH → (Option (Int32 × MH))) (hk71 : ∀ (v0 : Option Nat) (v1 : Option Nat) (v4 : Int32) (v5 : Int32) (h : MH) (r : (Int32 × MH)), k71 v0 v1 v4 v5 h = some r → Rt mi_M_solves 7 h0 71 [(0, va_rf v0), (1, va_rf v1), (4, .int v4), (5, .int v5)] [] h (some (.int r.1)) r.2) : ∀ (n : Nat) (v0 : Option Nat) (v1 : Option Nat) (v4 : Int32) (v5 : Int32) (v6 : Int32) (h : MH) (r : (Int32 × MH)), b_M_solves_82 F k71  n v0 v1 v4 v5 v6 h = some r → Rt mi_M_solves 7 h0 82 [(0, va_rf v0), (1, va_rf v1), (4, .int v4), (5, .int v5), (6, .int v6)] [] h (some (.int r.1)) r.2 := by
  intro n
  induction n with
  | zero =>
    intro v0 v1 v4 v5 v6 h r hyp
    cases hyp
  | succ n ih =>
    intro v0 v1 v4 v5 v6 h r hyp
    unfold b_M_solves_82 at hyp
    refine rt_st (pc1 := 87) (fun _ _ B => go_iload 4 d_M_solves_82 rfl (go_sipush (v := (576 : Int32)) d_M_solves_84 (by decide) B)) ?_
    by_cases c1 : (576 : Int32) ≤ v6
    · replace hyp := (if_pos c1).symm.trans hyp
      refine rt_st (pc1 := 71) (fun _ _ B => go_icmp_ge_t 252 d_M_solves_87 rfl c1 (go_goto 71 d_M_solves_252 rfl B)) ?_
      refine rt_sub [0, 1, 2, 3] (lv1 := [(0, va_rf v0), (1, va_rf v1), (4, .int v4), (5, .int v5)]) rfl ?_
      exact hk71 _ _ _ _ _ _ hyp
    · replace hyp := (if_neg c1).symm.trans hyp
      refine rt_st (pc1 := 93) (fun _ _ B => go_icmp_ge_f d_M_solves_87 rfl c1 (go_iconst (v := (0 : Int32)) d_M_solves_90 (by decide) (go_istore (lv1 := [(7, .int (0 : Int32)), (0, va_rf v0), (1, va_rf v1), (4, .int v4), (5, .int v5), (6, .int v6)]) d_M_solves_91 (by decide) rfl B))) ?_
      refine rt_sub [1, 2, 3, 4, 5, 0] (lv1 := [(0, va_rf v0), (1, va_rf v1), (4, .int v4), (5, .int v5), (6, .int v6), (7, .int (0 : Int32))]) rfl ?_
      exact p_M_solves_93 F k71 (b_M_solves_82 F k71 n) hk71 (fun a0 a1 a2 a3 a4 a5 r hyp => ih a0 a1 a2 a3 a4 a5 r hyp) F _ _ _ _ _ _ _ r hyp
set_option maxHeartbeats 4000000 in
set_option maxRecDepth 200000 in
theorem p_M_solves_71 (F : Nat) {h0 : MH} : ∀ (n : Nat) (v0 : Option Nat) (v1 : Option Nat) (v4 : Int32) (v5 : Int32) (h : MH) (r : (Int32 × MH)), b_M_solves_71 F  n v0 v1 v4 v5 h = some r → Rt mi_M_solves 7 h0 71 [(0, va_rf v0), (1, va_rf v1), (4, .int v4), (5, .int v5)] [] h (some (.int r.1)) r.2 := by
  intro n
  induction n with
  | zero =>
    intro v0 v1 v4 v5 h r hyp
    cases hyp
  | succ n ih =>
    intro v0 v1 v4 v5 h r hyp
    unfold b_M_solves_71 at hyp
    refine rt_st (pc1 := 73) (fun _ _ B => go_iload 3 d_M_solves_71 rfl B) ?_
    by_cases c1 : v5 = 0
    · replace hyp := (if_pos c1).symm.trans hyp
      obtain ⟨x2, e3, hyp⟩ := Option.bind_eq_some_iff.mp hyp
      obtain ⟨x4, e5, hyp⟩ := Option.bind_eq_some_iff.mp hyp
      obtain ⟨x6, e7, hyp⟩ := Option.bind_eq_some_iff.mp hyp
      refine rt_st (pc1 := 270) (fun _ _ B => go_if_eq_t 255 d_M_solves_73 rfl c1 (go_aload_n 0 d_M_solves_255 rfl (go_gfr d_M_solves_256 fd_11_23 w1012 e3 (go_aload_n 1 d_M_solves_259 rfl (go_callS1 (st := [va_rf x2]) [va_rf v1] (t_M_node v1 h _ e5) mm_M_node (by decide) d_M_solves_260 w1255 w1256 rfl (Nat.le_of_ble_eq_true rfl) rfl (go_iald d_M_solves_263 e7 (go_istore (lv1 := [(6, .int x6), (0, va_rf v0), (1, va_rf v1), (4, .int v4), (5, .int v5)]) d_M_solves_264 (by decide) rfl (go_iload 0 d_M_solves_266 rfl (go_ldc (v := (100000000 : Int32)) d_M_solves_268 w1248 B))))))))) ?_
      by_cases c8 : x6 = (100000000 : Int32)
      · replace hyp := (if_pos c8).symm.trans hyp
        refine rt_st (pc1 := 280) (fun _ _ B => go_icmp_ne_f d_M_solves_270 rfl c8 (go_ldc (v := (-1000000 : Int32)) d_M_solves_273 w1239 (go_goto 280 d_M_solves_275 rfl B))) ?_
        exact rt_eqW Value.int hyp (rt_int d_M_solves_280 rfl)
      · replace hyp := (if_neg c8).symm.trans hyp
        refine rt_st (pc1 := 280) (fun _ _ B => go_icmp_ne_t 278 d_M_solves_270 rfl c8 (go_iload 0 d_M_solves_278 rfl B)) ?_
        exact rt_eqW Value.int hyp (rt_int d_M_solves_280 rfl)
    · replace hyp := (if_neg c1).symm.trans hyp
      refine rt_st (pc1 := 82) (fun _ _ B => go_if_eq_f d_M_solves_73 rfl c1 (go_iconst (v := (0 : Int32)) d_M_solves_76 (by decide) (go_istore (lv1 := [(5, .int (0 : Int32)), (0, va_rf v0), (1, va_rf v1), (4, .int v4)]) d_M_solves_77 (by decide) rfl (go_iconst (v := (0 : Int32)) d_M_solves_79 (by decide) (go_istore (lv1 := [(6, .int (0 : Int32)), (5, .int (0 : Int32)), (0, va_rf v0), (1, va_rf v1), (4, .int v4)]) d_M_solves_80 (by decide) rfl B))))) ?_
      refine rt_sub [2, 3, 4, 1, 0] (lv1 := [(0, va_rf v0), (1, va_rf v1), (4, .int v4), (5, .int (0 : Int32)), (6, .int (0 : Int32))]) rfl ?_
      exact p_M_solves_82 F (b_M_solves_71 F n) (fun a0 a1 a2 a3 a4 r hyp => ih a0 a1 a2 a3 a4 r hyp) F _ _ _ _ _ _ r hyp
set_option maxHeartbeats 4000000 in
set_option maxRecDepth 200000 in
theorem p_M_solves_61 (F : Nat) {h0 : MH} (k3 : (Option Nat) → (Option Nat) → Int32 → Int32 → Int32 → Int32 → MH → (Option (Int32 × MH))) (hk3 : ∀ (v0 : Option Nat) (v1 : Option Nat) (v2 : Int32) (v3 : Int32) (v4 : Int32) (v5 : Int32) (h : MH) (r : (Int32 × MH)), k3 v0 v1 v2 v3 v4 v5 h = some r → Rt mi_M_solves 7 h0 3 [(0, va_rf v0), (1, va_rf v1), (2, .int v2), (3, .int v3), (4, .int v4), (5, .int v5)] [] h (some (.int r.1)) r.2) (v0 : Option Nat) (v1 : Option Nat) (v2 : Int32) (v3 : Int32) (v4 : Int32) (v5 : Int32) (s0 : Option Nat) (s1 : Int32) (s2 : Int32) (h : MH) (r : (Int32 × MH)) : b_M_solves_61 F k3  v0 v1 v2 v3 v4 v5 s0 s1 s2 h = some r → Rt mi_M_solves 7 h0 61 [(0, va_rf v0), (1, va_rf v1), (2, .int v2), (3, .int v3), (4, .int v4), (5, .int v5)] [.int s2, .int s1, va_rf s0] h (some (.int r.1)) r.2 := by
  intro hyp
  unfold b_M_solves_61 at hyp
  obtain ⟨h1, e2, hyp⟩ := Option.bind_eq_some_iff.mp hyp
  refine rt_st (pc1 := 3) (fun _ _ B => go_iast d_M_solves_61 e2 (go_iinc (v := (v5 + (1 : Int32))) (lv1 := [(5, .int (v5 + (1 : Int32))), (0, va_rf v0), (1, va_rf v1), (2, .int v2), (3, .int v3), (4, .int v4)]) 5 d_M_solves_62 rfl rfl (by decide) rfl (go_goto 3 d_M_solves_65 rfl B))) ?_
  refine rt_sub [1, 2, 3, 4, 5, 0] (lv1 := [(0, va_rf v0), (1, va_rf v1), (2, .int v2), (3, .int v3), (4, .int v4), (5, .int (v5 + (1 : Int32)))]) rfl ?_
  exact hk3 _ _ _ _ _ _ _ _ hyp
set_option maxHeartbeats 4000000 in
set_option maxRecDepth 200000 in
theorem p_M_solves_42 (F : Nat) {h0 : MH} (k3 : (Option Nat) → (Option Nat) → Int32 → Int32 → Int32 → Int32 → MH → (Option (Int32 × MH))) (hk3 : ∀ (v0 : Option Nat) (v1 : Option Nat) (v2 : Int32) (v3 : Int32) (v4 : Int32) (v5 : Int32) (h : MH) (r : (Int32 × MH)), k3 v0 v1 v2 v3 v4 v5 h = some r → Rt mi_M_solves 7 h0 3 [(0, va_rf v0), (1, va_rf v1), (2, .int v2), (3, .int v3), (4, .int v4), (5, .int v5)] [] h (some (.int r.1)) r.2) (v0 : Option Nat) (v1 : Option Nat) (v2 : Int32) (v3 : Int32) (v4 : Int32) (v5 : Int32) (s0 : Int32) (h : MH) (r : (Int32 × MH)) : b_M_solves_42 F k3  v0 v1 v2 v3 v4 v5 s0 h = some r → Rt mi_M_solves 7 h0 42 [(0, va_rf v0), (1, va_rf v1), (2, .int v2), (3, .int v3), (4, .int v4), (5, .int v5)] [.int s0] h (some (.int r.1)) r.2 := by
  intro hyp
  unfold b_M_solves_42 at hyp
  obtain ⟨x1, e2, hyp⟩ := Option.bind_eq_some_iff.mp hyp
  refine rt_st (pc1 := 52) (fun _ _ B => go_istore (lv1 := [(6, .int s0), (0, va_rf v0), (1, va_rf v1), (2, .int v2), (3, .int v3), (4, .int v4), (5, .int v5)]) d_M_solves_42 (by decide) rfl (go_aload_n 1 d_M_solves_44 rfl (go_gfr d_M_solves_45 fd_11_23 w1012 e2 (go_iload 6 d_M_solves_48 rfl (go_iload 0 d_M_solves_50 rfl B))))) ?_
  by_cases c3 : s0 = 0
  · replace hyp := (if_pos c3).symm.trans hyp
    refine rt_st (pc1 := 61) (fun _ _ B => go_if_eq_t 59 d_M_solves_52 rfl c3 (go_ldc (v := (100000000 : Int32)) d_M_solves_59 w1248 B)) ?_
    refine rt_sub [1, 2, 3, 4, 5, 6] (lv1 := [(0, va_rf v0), (1, va_rf v1), (2, .int v2), (3, .int v3), (4, .int v4), (5, .int v5)]) rfl ?_
    exact p_M_solves_61 F k3 hk3 _ _ _ _ _ _ _ _ _ _ r hyp
  · replace hyp := (if_neg c3).symm.trans hyp
    refine rt_st (pc1 := 61) (fun _ _ B => go_if_eq_f d_M_solves_52 rfl c3 (go_iconst (v := (0 : Int32)) d_M_solves_55 (by decide) (go_goto 61 d_M_solves_56 rfl B))) ?_
    refine rt_sub [1, 2, 3, 4, 5, 6] (lv1 := [(0, va_rf v0), (1, va_rf v1), (2, .int v2), (3, .int v3), (4, .int v4), (5, .int v5)]) rfl ?_
    exact p_M_solves_61 F k3 hk3 _ _ _ _ _ _ _ _ _ _ r hyp
set_option maxHeartbeats 4000000 in
set_option maxRecDepth 200000 in
theorem p_M_solves_41 (F : Nat) {h0 : MH} (k3 : (Option Nat) → (Option Nat) → Int32 → Int32 → Int32 → Int32 → MH → (Option (Int32 × MH))) (hk3 : ∀ (v0 : Option Nat) (v1 : Option Nat) (v2 : Int32) (v3 : Int32) (v4 : Int32) (v5 : Int32) (h : MH) (r : (Int32 × MH)), k3 v0 v1 v2 v3 v4 v5 h = some r → Rt mi_M_solves 7 h0 3 [(0, va_rf v0), (1, va_rf v1), (2, .int v2), (3, .int v3), (4, .int v4), (5, .int v5)] [] h (some (.int r.1)) r.2) (v0 : Option Nat) (v1 : Option Nat) (v2 : Int32) (v3 : Int32) (v4 : Int32) (v5 : Int32) (h : MH) (r : (Int32 × MH)) : b_M_solves_41 F k3  v0 v1 v2 v3 v4 v5 h = some r → Rt mi_M_solves 7 h0 41 [(0, va_rf v0), (1, va_rf v1), (2, .int v2), (3, .int v3), (4, .int v4), (5, .int v5)] [] h (some (.int r.1)) r.2 := by
  intro hyp
  unfold b_M_solves_41 at hyp
  refine rt_st (pc1 := 42) (fun _ _ B => go_iconst (v := (0 : Int32)) d_M_solves_41 (by decide) B) ?_
  exact p_M_solves_42 F k3 hk3 _ _ _ _ _ _ _ _ r hyp
set_option maxHeartbeats 4000000 in
set_option maxRecDepth 200000 in
theorem p_M_solves_37 (F : Nat) {h0 : MH} (k3 : (Option Nat) → (Option Nat) → Int32 → Int32 → Int32 → Int32 → MH → (Option (Int32 × MH))) (hk3 : ∀ (v0 : Option Nat) (v1 : Option Nat) (v2 : Int32) (v3 : Int32) (v4 : Int32) (v5 : Int32) (h : MH) (r : (Int32 × MH)), k3 v0 v1 v2 v3 v4 v5 h = some r → Rt mi_M_solves 7 h0 3 [(0, va_rf v0), (1, va_rf v1), (2, .int v2), (3, .int v3), (4, .int v4), (5, .int v5)] [] h (some (.int r.1)) r.2) (v0 : Option Nat) (v1 : Option Nat) (v2 : Int32) (v3 : Int32) (v4 : Int32) (v5 : Int32) (h : MH) (r : (Int32 × MH)) : b_M_solves_37 F k3  v0 v1 v2 v3 v4 v5 h = some r → Rt mi_M_solves 7 h0 37 [(0, va_rf v0), (1, va_rf v1), (2, .int v2), (3, .int v3), (4, .int v4), (5, .int v5)] [] h (some (.int r.1)) r.2 := by
  intro hyp
  unfold b_M_solves_37 at hyp
  refine rt_st (pc1 := 42) (fun _ _ B => go_iconst (v := (1 : Int32)) d_M_solves_37 (by decide) (go_goto 42 d_M_solves_38 rfl B)) ?_
  exact p_M_solves_42 F k3 hk3 _ _ _ _ _ _ _ _ r hyp
set_option maxHeartbeats 4000000 in
set_option maxRecDepth 200000 in
theorem p_M_solves_3 (F : Nat) {h0 : MH} : ∀ (n : Nat) (v0 : Option Nat) (v1 : Option Nat) (v2 : Int32) (v3 : Int32) (v4 : Int32) (v5 : Int32) (h : MH) (r : (Int32 × MH)), b_M_solves_3 F  n v0 v1 v2 v3 v4 v5 h = some r → Rt mi_M_solves 7 h0 3 [(0, va_rf v0), (1, va_rf v1), (2, .int v2), (3, .int v3), (4, .int v4), (5, .int v5)] [] h (some (.int r.1)) r.2 := by
  intro n
  induction n with
  | zero =>
    intro v0 v1 v2 v3 v4 v5 h r hyp
    cases hyp
  | succ n ih =>
    intro v0 v1 v2 v3 v4 v5 h r hyp
    unfold b_M_solves_3 at hyp
    refine rt_st (pc1 := 8) (fun _ _ B => go_iload 5 d_M_solves_3 rfl (go_sipush (v := (576 : Int32)) d_M_solves_5 (by decide) B)) ?_
    by_cases c1 : (576 : Int32) ≤ v5
    · replace hyp := (if_pos c1).symm.trans hyp
      refine rt_st (pc1 := 71) (fun _ _ B => go_icmp_ge_t 68 d_M_solves_8 rfl c1 (go_iconst (v := (1 : Int32)) d_M_solves_68 (by decide) (go_istore (lv1 := [(5, .int (1 : Int32)), (0, va_rf v0), (1, va_rf v1), (2, .int v2), (3, .int v3), (4, .int v4)]) d_M_solves_69 (by decide) rfl B))) ?_
      refine rt_sub [1, 2, 5, 0] (lv1 := [(0, va_rf v0), (1, va_rf v1), (4, .int v4), (5, .int (1 : Int32))]) rfl ?_
      exact p_M_solves_71 F F _ _ _ _ _ r hyp
    · replace hyp := (if_neg c1).symm.trans hyp
      refine rt_st (pc1 := 19) (fun _ _ B => go_icmp_ge_f d_M_solves_8 rfl c1 (go_iload 5 d_M_solves_11 rfl (go_iconst (v := (3 : Int32)) d_M_solves_13 (by decide) (go_idiv d_M_solves_14 (by decide) (go_bipush (v := (8 : Int32)) d_M_solves_15 (by decide) (go_irem d_M_solves_17 (by decide) (go_iload_n 3 d_M_solves_18 rfl B))))))) ?_
      by_cases c2 : (mj_irem (v5 / (3 : Int32)) (8 : Int32)) = v3
      · replace hyp := (if_pos c2).symm.trans hyp
        refine rt_st (pc1 := 25) (fun _ _ B => go_icmp_ne_f d_M_solves_19 rfl c2 (go_iload_n 2 d_M_solves_22 rfl (go_ldc (v := (-1000000 : Int32)) d_M_solves_23 w1239 B))) ?_
        by_cases c3 : v2 = (-1000000 : Int32)
        · replace hyp := (if_pos c3).symm.trans hyp
          refine rt_st (pc1 := 37) (fun _ _ B => go_icmp_eq_t 37 d_M_solves_25 rfl c3 B) ?_
          exact p_M_solves_37 F (b_M_solves_3 F n) (fun a0 a1 a2 a3 a4 a5 a6 r hyp => ih a0 a1 a2 a3 a4 a5 a6 r hyp) _ _ _ _ _ _ _ r hyp
        · replace hyp := (if_neg c3).symm.trans hyp
          refine rt_st (pc1 := 34) (fun _ _ B => go_icmp_eq_f d_M_solves_25 rfl c3 (go_iload 5 d_M_solves_28 rfl (go_bipush (v := (24 : Int32)) d_M_solves_30 (by decide) (go_idiv d_M_solves_32 (by decide) (go_iload_n 2 d_M_solves_33 rfl B))))) ?_
          by_cases c4 : (v5 / (24 : Int32)) = v2
          · replace hyp := (if_pos c4).symm.trans hyp
            refine rt_st (pc1 := 37) (fun _ _ B => go_icmp_ne_f d_M_solves_34 rfl c4 B) ?_
            exact p_M_solves_37 F (b_M_solves_3 F n) (fun a0 a1 a2 a3 a4 a5 a6 r hyp => ih a0 a1 a2 a3 a4 a5 a6 r hyp) _ _ _ _ _ _ _ r hyp
          · replace hyp := (if_neg c4).symm.trans hyp
            refine rt_st (pc1 := 41) (fun _ _ B => go_icmp_ne_t 41 d_M_solves_34 rfl c4 B) ?_
            exact p_M_solves_41 F (b_M_solves_3 F n) (fun a0 a1 a2 a3 a4 a5 a6 r hyp => ih a0 a1 a2 a3 a4 a5 a6 r hyp) _ _ _ _ _ _ _ r hyp
      · replace hyp := (if_neg c2).symm.trans hyp
        refine rt_st (pc1 := 41) (fun _ _ B => go_icmp_ne_t 41 d_M_solves_19 rfl c2 B) ?_
        exact p_M_solves_41 F (b_M_solves_3 F n) (fun a0 a1 a2 a3 a4 a5 a6 r hyp => ih a0 a1 a2 a3 a4 a5 a6 r hyp) _ _ _ _ _ _ _ r hyp
set_option maxHeartbeats 4000000 in
set_option maxRecDepth 200000 in
theorem t_M_solves (F : Nat) (v0 : Option Nat) (v1 : Option Nat) (v2 : Int32) (v3 : Int32) (v4 : Int32) (h : MH) (r : (Int32 × MH)) (hyp : f_M_solves F v0 v1 v2 v3 v4 h = some r) : Mt mi_M_solves 7 [va_rf v0, va_rf v1, .int v2, .int v3, .int v4] h (some (.int r.1)) r.2 := by
  refine Mt.rt (lv := [(0, va_rf v0), (1, va_rf v1), (2, .int v2), (3, .int v3), (4, .int v4)]) (by decide +kernel) (by simp [lv_args, mj_rfc, mj_cti, mj_ctl]) (by simp [mj_rfc, mj_cti, mj_ctl]) ?_
  unfold f_M_solves at hyp
  refine rt_st (pc1 := 3) (fun _ _ B => go_iconst (v := (0 : Int32)) d_M_solves_0 (by decide) (go_istore (lv1 := [(5, .int (0 : Int32)), (0, va_rf v0), (1, va_rf v1), (2, .int v2), (3, .int v3), (4, .int v4)]) d_M_solves_1 (by decide) rfl B)) ?_
  refine rt_sub [1, 2, 3, 4, 5, 0] (lv1 := [(0, va_rf v0), (1, va_rf v1), (2, .int v2), (3, .int v3), (4, .int v4), (5, .int (0 : Int32))]) rfl ?_
  exact p_M_solves_3 F F _ _ _ _ _ _ _ r hyp
/-! WideTurnModel.firstOf([I)I -/
def b_M_firstOf_83 (F : Nat) (k7 : (Option Nat) → (Option Nat) → Int32 → Int32 → MH → (Option (Int32 × MH))) (k17 : (Option Nat) → (Option Nat) → Int32 → Int32 → Int32 → MH → (Option (Int32 × MH))) : (Option Nat) → (Option Nat) → (Int32) → (Int32) → (Int32) → (MH) → (Option (Int32 × MH)) := fun v0 v1 v2 v3 v4 h => 
  k17 v0 v1 v2 v3 (v4 + (1 : Int32)) h
def b_M_firstOf_17 (F : Nat) (k7 : (Option Nat) → (Option Nat) → Int32 → Int32 → MH → (Option (Int32 × MH))) : Nat → (Option Nat) → (Option Nat) → (Int32) → (Int32) → (Int32) → (MH) → (Option (Int32 × MH))
  | 0 => fun _ _ _ _ _ _ => none
  | n + 1 => fun v0 v1 v2 v3 v4 h => 
    if (8 : Int32) ≤ v4 then
      k7 v0 v1 v2 (v3 + (1 : Int32)) h
    else
      Option.bind (f_M_behind v1 v2 v3 v4 (0 : Int32) h) fun x2 =>
      if x2.1 = (-1000000 : Int32) then
        b_M_firstOf_83 F k7 (b_M_firstOf_17 F k7 n) v0 v1 v2 v3 v4 x2.2
      else
        Option.bind (gfr x2.2 v0 [11] 23) fun x5 =>
        Option.bind (ald x2.2 x5 0 v2) fun x7 =>
        if x7 ≤ 0 then
          b_M_firstOf_83 F k7 (b_M_firstOf_17 F k7 n) v0 v1 v2 v3 v4 x2.2
        else
          Option.bind (gfr x2.2 v0 [11] 23) fun x10 =>
          Option.bind (ald x2.2 x10 0 x2.1) fun x12 =>
          Option.bind (f_M_minutesOf v1 v3 v4 x2.2) fun x14 =>
          Option.bind (gfr x2.2 v0 [11] 23) fun x16 =>
          Option.bind (ald x2.2 x16 0 v2) fun x18 =>
          if (x12 + x14) = x18 then
            some ((((10 : Int32) * v3) + v4), x2.2)
          else
            b_M_firstOf_83 F k7 (b_M_firstOf_17 F k7 n) v0 v1 v2 v3 v4 x2.2
def b_M_firstOf_7 (F : Nat) : Nat → (Option Nat) → (Option Nat) → (Int32) → (Int32) → (MH) → (Option (Int32 × MH))
  | 0 => fun _ _ _ _ _ => none
  | n + 1 => fun v0 v1 v2 v3 h => 
    Option.bind (ald h v1 0 (4 : Int32)) fun x1 =>
    if x1 ≤ v3 then
      some ((-1000000 : Int32), h)
    else
      b_M_firstOf_17 F (b_M_firstOf_7 F n) F v0 v1 v2 v3 (0 : Int32) h
def f_M_firstOf (F : Nat) (v0 : Option Nat) (v1 : Option Nat) (h : MH) : Option (Int32 × MH) :=
  Option.bind (f_M_node v1 h) fun x1 =>
  b_M_firstOf_7 F F v0 v1 x1 (0 : Int32) h
set_option maxHeartbeats 4000000 in
set_option maxRecDepth 200000 in
theorem p_M_firstOf_83 (F : Nat) {h0 : MH} (k7 : (Option Nat) → (Option Nat) → Int32 → Int32 → MH → (Option (Int32 × MH))) (k17 : (Option Nat) → (Option Nat) → Int32 → Int32 → Int32 → MH → (Option (Int32 × MH))) (hk7 : ∀ (v0 : Option Nat) (v1 : Option Nat) (v2 : Int32) (v3 : Int32) (h : MH) (r : (Int32 × MH)), k7 v0 v1 v2 v3 h = some r → Rt mi_M_firstOf 7 h0 7 [(0, va_rf v0), (1, va_rf v1), (2, .int v2), (3, .int v3)] [] h (some (.int r.1)) r.2) (hk17 : ∀ (v0 : Option Nat) (v1 : Option Nat) (v2 : Int32) (v3 : Int32) (v4 : Int32) (h : MH) (r : (Int32 × MH)), k17 v0 v1 v2 v3 v4 h = some r → Rt mi_M_firstOf 7 h0 17 [(0, va_rf v0), (1, va_rf v1), (2, .int v2), (3, .int v3), (4, .int v4)] [] h (some (.int r.1)) r.2) (v0 : Option Nat) (v1 : Option Nat) (v2 : Int32) (v3 : Int32) (v4 : Int32) (h : MH) (r : (Int32 × MH)) : b_M_firstOf_83 F k7 k17  v0 v1 v2 v3 v4 h = some r → Rt mi_M_firstOf 7 h0 83 [(0, va_rf v0), (1, va_rf v1), (2, .int v2), (3, .int v3), (4, .int v4)] [] h (some (.int r.1)) r.2 := by
  intro hyp
  unfold b_M_firstOf_83 at hyp
  refine rt_st (pc1 := 17) (fun _ _ B => go_iinc (v := (v4 + (1 : Int32))) (lv1 := [(4, .int (v4 + (1 : Int32))), (0, va_rf v0), (1, va_rf v1), (2, .int v2), (3, .int v3)]) 4 d_M_firstOf_83 rfl rfl (by decide) rfl (go_goto 17 d_M_firstOf_86 rfl B)) ?_
  refine rt_sub [1, 2, 3, 4, 0] (lv1 := [(0, va_rf v0), (1, va_rf v1), (2, .int v2), (3, .int v3), (4, .int (v4 + (1 : Int32)))]) rfl ?_
  exact hk17 _ _ _ _ _ _ _ hyp
set_option maxHeartbeats 4000000 in
set_option maxRecDepth 200000 in
theorem p_M_firstOf_17 (F : Nat) {h0 : MH} (k7 : (Option Nat) → (Option Nat) → Int32 → Int32 → MH → (Option (Int32 × MH))) (hk7 : ∀ (v0 : Option Nat) (v1 : Option Nat) (v2 : Int32) (v3 : Int32) (h : MH) (r : (Int32 × MH)), k7 v0 v1 v2 v3 h = some r → Rt mi_M_firstOf 7 h0 7 [(0, va_rf v0), (1, va_rf v1), (2, .int v2), (3, .int v3)] [] h (some (.int r.1)) r.2) : ∀ (n : Nat) (v0 : Option Nat) (v1 : Option Nat) (v2 : Int32) (v3 : Int32) (v4 : Int32) (h : MH) (r : (Int32 × MH)), b_M_firstOf_17 F k7  n v0 v1 v2 v3 v4 h = some r → Rt mi_M_firstOf 7 h0 17 [(0, va_rf v0), (1, va_rf v1), (2, .int v2), (3, .int v3), (4, .int v4)] [] h (some (.int r.1)) r.2 := by
  intro n
  induction n with
  | zero =>
    intro v0 v1 v2 v3 v4 h r hyp
    cases hyp
  | succ n ih =>
    intro v0 v1 v2 v3 v4 h r hyp
    unfold b_M_firstOf_17 at hyp
    refine rt_st (pc1 := 21) (fun _ _ B => go_iload 4 d_M_firstOf_17 rfl (go_bipush (v := (8 : Int32)) d_M_firstOf_19 (by decide) B)) ?_
    by_cases c1 : (8 : Int32) ≤ v4
    · replace hyp := (if_pos c1).symm.trans hyp
      refine rt_st (pc1 := 7) (fun _ _ B => go_icmp_ge_t 89 d_M_firstOf_21 rfl c1 (go_iinc (v := (v3 + (1 : Int32))) (lv1 := [(3, .int (v3 + (1 : Int32))), (0, va_rf v0), (1, va_rf v1), (2, .int v2), (4, .int v4)]) 3 d_M_firstOf_89 rfl rfl (by decide) rfl (go_goto 7 d_M_firstOf_92 rfl B))) ?_
      refine rt_sub [1, 2, 3, 0] (lv1 := [(0, va_rf v0), (1, va_rf v1), (2, .int v2), (3, .int (v3 + (1 : Int32)))]) rfl ?_
      exact hk7 _ _ _ _ _ _ hyp
    · replace hyp := (if_neg c1).symm.trans hyp
      obtain ⟨x2, e3, hyp⟩ := Option.bind_eq_some_iff.mp hyp
      refine rt_st (pc1 := 39) (fun _ _ B => go_icmp_ge_f d_M_firstOf_21 rfl c1 (go_aload_n 1 d_M_firstOf_24 rfl (go_iload_n 2 d_M_firstOf_25 rfl (go_iload_n 3 d_M_firstOf_26 rfl (go_iload 4 d_M_firstOf_27 rfl (go_iconst (v := (0 : Int32)) d_M_firstOf_29 (by decide) (go_callS1 (st := []) [va_rf v1, .int v2, .int v3, .int v4, .int (0 : Int32)] (t_M_behind v1 v2 v3 v4 (0 : Int32) h _ e3) mm_M_behind (by decide) d_M_firstOf_30 w1249 w1250 rfl (Nat.le_of_ble_eq_true rfl) rfl (go_istore (lv1 := [(5, .int x2.1), (0, va_rf v0), (1, va_rf v1), (2, .int v2), (3, .int v3), (4, .int v4)]) d_M_firstOf_33 (by decide) rfl (go_iload 0 d_M_firstOf_35 rfl (go_ldc (v := (-1000000 : Int32)) d_M_firstOf_37 w1239 B)))))))))) ?_
      by_cases c4 : x2.1 = (-1000000 : Int32)
      · replace hyp := (if_pos c4).symm.trans hyp
        refine rt_st (pc1 := 83) (fun _ _ B => go_icmp_eq_t 83 d_M_firstOf_39 rfl c4 B) ?_
        refine rt_sub [1, 2, 3, 4, 5] (lv1 := [(0, va_rf v0), (1, va_rf v1), (2, .int v2), (3, .int v3), (4, .int v4)]) rfl ?_
        exact p_M_firstOf_83 F k7 (b_M_firstOf_17 F k7 n) hk7 (fun a0 a1 a2 a3 a4 a5 r hyp => ih a0 a1 a2 a3 a4 a5 r hyp) _ _ _ _ _ _ r hyp
      · replace hyp := (if_neg c4).symm.trans hyp
        obtain ⟨x5, e6, hyp⟩ := Option.bind_eq_some_iff.mp hyp
        obtain ⟨x7, e8, hyp⟩ := Option.bind_eq_some_iff.mp hyp
        refine rt_st (pc1 := 48) (fun _ _ B => go_icmp_eq_f d_M_firstOf_39 rfl c4 (go_aload_n 1 d_M_firstOf_42 rfl (go_gfr d_M_firstOf_43 fd_11_23 w1012 e6 (go_iload_n 3 d_M_firstOf_46 rfl (go_iald d_M_firstOf_47 e8 B))))) ?_
        by_cases c9 : x7 ≤ 0
        · replace hyp := (if_pos c9).symm.trans hyp
          refine rt_st (pc1 := 83) (fun _ _ B => go_if_le_t 83 d_M_firstOf_48 rfl c9 B) ?_
          refine rt_sub [1, 2, 3, 4, 5] (lv1 := [(0, va_rf v0), (1, va_rf v1), (2, .int v2), (3, .int v3), (4, .int v4)]) rfl ?_
          exact p_M_firstOf_83 F k7 (b_M_firstOf_17 F k7 n) hk7 (fun a0 a1 a2 a3 a4 a5 r hyp => ih a0 a1 a2 a3 a4 a5 r hyp) _ _ _ _ _ _ r hyp
        · replace hyp := (if_neg c9).symm.trans hyp
          obtain ⟨x10, e11, hyp⟩ := Option.bind_eq_some_iff.mp hyp
          obtain ⟨x12, e13, hyp⟩ := Option.bind_eq_some_iff.mp hyp
          obtain ⟨x14, e15, hyp⟩ := Option.bind_eq_some_iff.mp hyp
          obtain ⟨x16, e17, hyp⟩ := Option.bind_eq_some_iff.mp hyp
          obtain ⟨x18, e19, hyp⟩ := Option.bind_eq_some_iff.mp hyp
          refine rt_st (pc1 := 72) (fun _ _ B => go_if_le_f d_M_firstOf_48 rfl c9 (go_aload_n 1 d_M_firstOf_51 rfl (go_gfr d_M_firstOf_52 fd_11_23 w1012 e11 (go_iload 0 d_M_firstOf_55 rfl (go_iald d_M_firstOf_57 e13 (go_aload_n 2 d_M_firstOf_58 rfl (go_iload_n 4 d_M_firstOf_59 rfl (go_iload 5 d_M_firstOf_60 rfl (go_callS1 (st := [.int x12]) [va_rf v1, .int v3, .int v4] (t_M_minutesOf v1 v3 v4 x2.2 _ e15) mm_M_minutesOf (by decide) d_M_firstOf_62 w1201 w1202 rfl (Nat.le_of_ble_eq_true rfl) rfl (go_iadd d_M_firstOf_65 (go_aload_n 1 d_M_firstOf_66 rfl (go_gfr d_M_firstOf_67 fd_11_23 w1012 e17 (go_iload_n 3 d_M_firstOf_70 rfl (go_iald d_M_firstOf_71 e19 B)))))))))))))) ?_
          by_cases c20 : (x12 + x14) = x18
          · replace hyp := (if_pos c20).symm.trans hyp
            refine rt_st (pc1 := 82) (fun _ _ B => go_icmp_ne_f d_M_firstOf_72 rfl c20 (go_bipush (v := (10 : Int32)) d_M_firstOf_75 (by decide) (go_iload_n 4 d_M_firstOf_77 rfl (go_imul d_M_firstOf_78 (go_iload 5 d_M_firstOf_79 rfl (go_iadd d_M_firstOf_81 B)))))) ?_
            exact rt_eqW Value.int hyp (rt_int d_M_firstOf_82 rfl)
          · replace hyp := (if_neg c20).symm.trans hyp
            refine rt_st (pc1 := 83) (fun _ _ B => go_icmp_ne_t 83 d_M_firstOf_72 rfl c20 B) ?_
            refine rt_sub [1, 2, 3, 4, 5] (lv1 := [(0, va_rf v0), (1, va_rf v1), (2, .int v2), (3, .int v3), (4, .int v4)]) rfl ?_
            exact p_M_firstOf_83 F k7 (b_M_firstOf_17 F k7 n) hk7 (fun a0 a1 a2 a3 a4 a5 r hyp => ih a0 a1 a2 a3 a4 a5 r hyp) _ _ _ _ _ _ r hyp
set_option maxHeartbeats 4000000 in
set_option maxRecDepth 200000 in
theorem p_M_firstOf_7 (F : Nat) {h0 : MH} : ∀ (n : Nat) (v0 : Option Nat) (v1 : Option Nat) (v2 : Int32) (v3 : Int32) (h : MH) (r : (Int32 × MH)), b_M_firstOf_7 F  n v0 v1 v2 v3 h = some r → Rt mi_M_firstOf 7 h0 7 [(0, va_rf v0), (1, va_rf v1), (2, .int v2), (3, .int v3)] [] h (some (.int r.1)) r.2 := by
  intro n
  induction n with
  | zero =>
    intro v0 v1 v2 v3 h r hyp
    cases hyp
  | succ n ih =>
    intro v0 v1 v2 v3 h r hyp
    unfold b_M_firstOf_7 at hyp
    obtain ⟨x1, e2, hyp⟩ := Option.bind_eq_some_iff.mp hyp
    refine rt_st (pc1 := 11) (fun _ _ B => go_iload_n 3 d_M_firstOf_7 rfl (go_aload_n 1 d_M_firstOf_8 rfl (go_iconst (v := (4 : Int32)) d_M_firstOf_9 (by decide) (go_iald d_M_firstOf_10 e2 B)))) ?_
    by_cases c3 : x1 ≤ v3
    · replace hyp := (if_pos c3).symm.trans hyp
      refine rt_st (pc1 := 97) (fun _ _ B => go_icmp_ge_t 95 d_M_firstOf_11 rfl c3 (go_ldc (v := (-1000000 : Int32)) d_M_firstOf_95 w1239 B)) ?_
      exact rt_eqW Value.int hyp (rt_int d_M_firstOf_97 rfl)
    · replace hyp := (if_neg c3).symm.trans hyp
      refine rt_st (pc1 := 17) (fun _ _ B => go_icmp_ge_f d_M_firstOf_11 rfl c3 (go_iconst (v := (0 : Int32)) d_M_firstOf_14 (by decide) (go_istore (lv1 := [(4, .int (0 : Int32)), (0, va_rf v0), (1, va_rf v1), (2, .int v2), (3, .int v3)]) d_M_firstOf_15 (by decide) rfl B))) ?_
      refine rt_sub [1, 2, 3, 4, 0] (lv1 := [(0, va_rf v0), (1, va_rf v1), (2, .int v2), (3, .int v3), (4, .int (0 : Int32))]) rfl ?_
      exact p_M_firstOf_17 F (b_M_firstOf_7 F n) (fun a0 a1 a2 a3 a4 r hyp => ih a0 a1 a2 a3 a4 r hyp) F _ _ _ _ _ _ r hyp
set_option maxHeartbeats 4000000 in
set_option maxRecDepth 200000 in
theorem t_M_firstOf (F : Nat) (v0 : Option Nat) (v1 : Option Nat) (h : MH) (r : (Int32 × MH)) (hyp : f_M_firstOf F v0 v1 h = some r) : Mt mi_M_firstOf 7 [va_rf v0, va_rf v1] h (some (.int r.1)) r.2 := by
  refine Mt.rt (lv := [(0, va_rf v0), (1, va_rf v1)]) (by decide +kernel) (by simp [lv_args, mj_rfc, mj_cti, mj_ctl]) (by simp [mj_rfc, mj_cti, mj_ctl]) ?_
  unfold f_M_firstOf at hyp
  obtain ⟨x1, e2, hyp⟩ := Option.bind_eq_some_iff.mp hyp
  refine rt_st (pc1 := 7) (fun _ _ B => go_aload_n 1 d_M_firstOf_0 rfl (go_callS1 (st := []) [va_rf v1] (t_M_node v1 h _ e2) mm_M_node (by decide) d_M_firstOf_1 w1255 w1256 rfl (Nat.le_of_ble_eq_true rfl) rfl (go_istore_n (lv1 := [(2, .int x1), (0, va_rf v0), (1, va_rf v1)]) d_M_firstOf_4 (by decide) (by first | (simp [mj_s1, mj_s2, mj_rfc, mj_cti, mj_ctl]; done) | (simp [mj_s1, mj_s2, mj_rfc, mj_cti, mj_ctl]; decide)) (go_iconst (v := (0 : Int32)) d_M_firstOf_5 (by decide) (go_istore_n (lv1 := [(3, .int (0 : Int32)), (2, .int x1), (0, va_rf v0), (1, va_rf v1)]) d_M_firstOf_6 (by decide) rfl B))))) ?_
  refine rt_sub [2, 3, 1, 0] (lv1 := [(0, va_rf v0), (1, va_rf v1), (2, .int x1), (3, .int (0 : Int32))]) rfl ?_
  exact p_M_firstOf_7 F F _ _ _ _ _ r hyp
/-! WideTurnModel.turnedOf([II)I -/
def f_M_turnedOf (F : Nat) (v0 : Option Nat) (v1 : Option Nat) (v2 : Int32) (h : MH) : Option (Int32 × MH) :=
  Option.bind (ald h v1 0 (15 : Int32)) fun x1 =>
  Option.bind (onc h v0 11 (f_M_solves F v0 v1 (-1000000 : Int32) ((x1 + (4 : Int32)) &&& (7 : Int32)) v2 h)) fun x3 =>
  some (x3.1, x3.2)
set_option maxHeartbeats 4000000 in
set_option maxRecDepth 200000 in
theorem t_M_turnedOf (F : Nat) (v0 : Option Nat) (v1 : Option Nat) (v2 : Int32) (h : MH) (r : (Int32 × MH)) (hyp : f_M_turnedOf F v0 v1 v2 h = some r) : Mt mi_M_turnedOf 8 [va_rf v0, va_rf v1, .int v2] h (some (.int r.1)) r.2 := by
  refine Mt.rt (lv := [(0, va_rf v0), (1, va_rf v1), (2, .int v2)]) (by decide +kernel) (by simp [lv_args, mj_rfc, mj_cti, mj_ctl]) (by simp [mj_rfc, mj_cti, mj_ctl]) ?_
  unfold f_M_turnedOf at hyp
  obtain ⟨x1, e2, hyp⟩ := Option.bind_eq_some_iff.mp hyp
  obtain ⟨x3, e4, hyp⟩ := Option.bind_eq_some_iff.mp hyp
  refine rt_st (pc1 := 17) (fun _ _ B => go_aload_n 0 d_M_turnedOf_0 rfl (go_aload_n 1 d_M_turnedOf_1 rfl (go_ldc (v := (-1000000 : Int32)) d_M_turnedOf_2 w1239 (go_aload_n 1 d_M_turnedOf_4 rfl (go_bipush (v := (15 : Int32)) d_M_turnedOf_5 (by decide) (go_iald d_M_turnedOf_7 e2 (go_iconst (v := (4 : Int32)) d_M_turnedOf_8 (by decide) (go_iadd d_M_turnedOf_9 (go_bipush (v := (7 : Int32)) d_M_turnedOf_10 (by decide) (go_iand d_M_turnedOf_12 (go_iload_n 2 d_M_turnedOf_13 rfl (go_callV1 (q := q_11) (st := []) [va_rf v1, .int (-1000000 : Int32), .int ((x1 + (4 : Int32)) &&& (7 : Int32)), .int v2] (t_M_solves F v0 v1 (-1000000 : Int32) ((x1 + (4 : Int32)) &&& (7 : Int32)) v2 h _ (onc_spec e4).2) mm_M_solves (by decide) d_M_turnedOf_14 (onc_spec e4).1 rfl rfl w1244 w1246 w44 rfl (Nat.le_of_ble_eq_true rfl) rfl B)))))))))))) ?_
  exact rt_eqW Value.int hyp (rt_int d_M_turnedOf_17 rfl)
/-! WideTurnModel.way(III)I -/
def f_M_way (F : Nat) (v0 : Option Nat) (v1 : Int32) (v2 : Int32) (v3 : Int32) (h : MH) : Option (Int32 × MH) :=
  Option.bind (pfv h v0 [11] 0 (.int (0 : Int32))) fun h1 =>
  Option.bind (gfr h1 v0 [11] 15) fun x3 =>
  Option.bind (ald h1 x3 0 (0 : Int32)) fun x5 =>
  if x5 = 0 then
    some ((-1000002 : Int32), h1)
  else
    if (f_M_in v1 (0 : Int32) (23 : Int32)) = 0 then
      some ((-1000001 : Int32), h1)
    else
      if (f_M_in v2 (0 : Int32) (7 : Int32)) = 0 then
        some ((-1000001 : Int32), h1)
      else
        if (f_M_in v3 (0 : Int32) (1 : Int32)) = 0 then
          some ((-1000001 : Int32), h1)
        else
          Option.bind (gfr h1 v0 [11] 15) fun x11 =>
          Option.bind (onc h1 v0 11 (f_M_solves F v0 x11 v1 v2 (0 : Int32) h1)) fun x13 =>
          if x13.1 = (-1000000 : Int32) then
            some (x13.1, x13.2)
          else
            if v3 = 0 then
              some (x13.1, x13.2)
            else
              Option.bind (gfr x13.2 v0 [11] 15) fun x17 =>
              Option.bind (onc x13.2 v0 11 (f_M_firstOf F v0 x17 x13.2)) fun x19 =>
              some (x19.1, x19.2)
set_option maxHeartbeats 4000000 in
set_option maxRecDepth 200000 in
theorem t_M_way (F : Nat) (v0 : Option Nat) (v1 : Int32) (v2 : Int32) (v3 : Int32) (h : MH) (r : (Int32 × MH)) (hyp : f_M_way F v0 v1 v2 v3 h = some r) : Mt mi_M_way 8 [va_rf v0, .int v1, .int v2, .int v3] h (some (.int r.1)) r.2 := by
  refine Mt.rt (lv := [(0, va_rf v0), (1, .int v1), (2, .int v2), (3, .int v3)]) (by decide +kernel) (by simp [lv_args, mj_rfc, mj_cti, mj_ctl]) (by simp [mj_rfc, mj_cti, mj_ctl]) ?_
  unfold f_M_way at hyp
  obtain ⟨h1, e2, hyp⟩ := Option.bind_eq_some_iff.mp hyp
  obtain ⟨x3, e4, hyp⟩ := Option.bind_eq_some_iff.mp hyp
  obtain ⟨x5, e6, hyp⟩ := Option.bind_eq_some_iff.mp hyp
  refine rt_st (pc1 := 11) (fun _ _ B => go_aload_n 0 d_M_way_0 rfl (go_iconst (v := (0 : Int32)) d_M_way_1 (by decide) (go_pfi d_M_way_2 fd_11_0 w989 (fun q => by cases q) e2 (go_aload_n 0 d_M_way_5 rfl (go_gfr d_M_way_6 fd_11_15 w1004 e4 (go_iconst (v := (0 : Int32)) d_M_way_9 (by decide) (go_iald d_M_way_10 e6 B))))))) ?_
  by_cases c7 : x5 = 0
  · replace hyp := (if_pos c7).symm.trans hyp
    refine rt_st (pc1 := 16) (fun _ _ B => go_if_ne_f d_M_way_11 rfl c7 (go_ldc (v := (-1000002 : Int32)) d_M_way_14 w1164 B)) ?_
    exact rt_eqW Value.int hyp (rt_int d_M_way_16 rfl)
  · replace hyp := (if_neg c7).symm.trans hyp
    refine rt_st (pc1 := 24) (fun _ _ B => go_if_ne_t 17 d_M_way_11 rfl c7 (go_iload_n 1 d_M_way_17 rfl (go_iconst (v := (0 : Int32)) d_M_way_18 (by decide) (go_bipush (v := (23 : Int32)) d_M_way_19 (by decide) (go_callS1 (st := []) [.int v1, .int (0 : Int32), .int (23 : Int32)] (t_M_in v1 (0 : Int32) (23 : Int32) h1) mm_M_in (by decide) d_M_way_21 w1073 w1074 rfl (Nat.le_of_ble_eq_true rfl) rfl B))))) ?_
    by_cases c8 : (f_M_in v1 (0 : Int32) (23 : Int32)) = 0
    · replace hyp := (if_pos c8).symm.trans hyp
      refine rt_st (pc1 := 48) (fun _ _ B => go_if_eq_t 46 d_M_way_24 rfl c8 (go_ldc (v := (-1000001 : Int32)) d_M_way_46 w1076 B)) ?_
      exact rt_eqW Value.int hyp (rt_int d_M_way_48 rfl)
    · replace hyp := (if_neg c8).symm.trans hyp
      refine rt_st (pc1 := 34) (fun _ _ B => go_if_eq_f d_M_way_24 rfl c8 (go_iload_n 2 d_M_way_27 rfl (go_iconst (v := (0 : Int32)) d_M_way_28 (by decide) (go_bipush (v := (7 : Int32)) d_M_way_29 (by decide) (go_callS1 (st := []) [.int v2, .int (0 : Int32), .int (7 : Int32)] (t_M_in v2 (0 : Int32) (7 : Int32) h1) mm_M_in (by decide) d_M_way_31 w1073 w1074 rfl (Nat.le_of_ble_eq_true rfl) rfl B))))) ?_
      by_cases c9 : (f_M_in v2 (0 : Int32) (7 : Int32)) = 0
      · replace hyp := (if_pos c9).symm.trans hyp
        refine rt_st (pc1 := 48) (fun _ _ B => go_if_eq_t 46 d_M_way_34 rfl c9 (go_ldc (v := (-1000001 : Int32)) d_M_way_46 w1076 B)) ?_
        exact rt_eqW Value.int hyp (rt_int d_M_way_48 rfl)
      · replace hyp := (if_neg c9).symm.trans hyp
        refine rt_st (pc1 := 43) (fun _ _ B => go_if_eq_f d_M_way_34 rfl c9 (go_iload_n 3 d_M_way_37 rfl (go_iconst (v := (0 : Int32)) d_M_way_38 (by decide) (go_iconst (v := (1 : Int32)) d_M_way_39 (by decide) (go_callS1 (st := []) [.int v3, .int (0 : Int32), .int (1 : Int32)] (t_M_in v3 (0 : Int32) (1 : Int32) h1) mm_M_in (by decide) d_M_way_40 w1073 w1074 rfl (Nat.le_of_ble_eq_true rfl) rfl B))))) ?_
        by_cases c10 : (f_M_in v3 (0 : Int32) (1 : Int32)) = 0
        · replace hyp := (if_pos c10).symm.trans hyp
          refine rt_st (pc1 := 48) (fun _ _ B => go_if_ne_f d_M_way_43 rfl c10 (go_ldc (v := (-1000001 : Int32)) d_M_way_46 w1076 B)) ?_
          exact rt_eqW Value.int hyp (rt_int d_M_way_48 rfl)
        · replace hyp := (if_neg c10).symm.trans hyp
          obtain ⟨x11, e12, hyp⟩ := Option.bind_eq_some_iff.mp hyp
          obtain ⟨x13, e14, hyp⟩ := Option.bind_eq_some_iff.mp hyp
          refine rt_st (pc1 := 66) (fun _ _ B => go_if_ne_t 49 d_M_way_43 rfl c10 (go_aload_n 0 d_M_way_49 rfl (go_aload_n 0 d_M_way_50 rfl (go_gfr d_M_way_51 fd_11_15 w1004 e12 (go_iload_n 1 d_M_way_54 rfl (go_iload_n 2 d_M_way_55 rfl (go_iconst (v := (0 : Int32)) d_M_way_56 (by decide) (go_callV1 (q := q_11) (st := []) [va_rf x11, .int v1, .int v2, .int (0 : Int32)] (t_M_solves F v0 x11 v1 v2 (0 : Int32) h1 _ (onc_spec e14).2) mm_M_solves (by decide) d_M_way_57 (onc_spec e14).1 rfl rfl w1244 w1246 w44 rfl (Nat.le_of_ble_eq_true rfl) rfl (go_istore (lv1 := [(4, .int x13.1), (0, va_rf v0), (1, .int v1), (2, .int v2), (3, .int v3)]) d_M_way_60 (by decide) rfl (go_iload 0 d_M_way_62 rfl (go_ldc (v := (-1000000 : Int32)) d_M_way_64 w1239 B))))))))))) ?_
          by_cases c15 : x13.1 = (-1000000 : Int32)
          · replace hyp := (if_pos c15).symm.trans hyp
            refine rt_st (pc1 := 86) (fun _ _ B => go_icmp_eq_t 73 d_M_way_66 rfl c15 (go_iload 0 d_M_way_73 rfl (go_goto 86 d_M_way_75 rfl B))) ?_
            exact rt_eqW Value.int hyp (rt_int d_M_way_86 rfl)
          · replace hyp := (if_neg c15).symm.trans hyp
            refine rt_st (pc1 := 70) (fun _ _ B => go_icmp_eq_f d_M_way_66 rfl c15 (go_iload_n 4 d_M_way_69 rfl B)) ?_
            by_cases c16 : v3 = 0
            · replace hyp := (if_pos c16).symm.trans hyp
              refine rt_st (pc1 := 86) (fun _ _ B => go_if_ne_f d_M_way_70 rfl c16 (go_iload 0 d_M_way_73 rfl (go_goto 86 d_M_way_75 rfl B))) ?_
              exact rt_eqW Value.int hyp (rt_int d_M_way_86 rfl)
            · replace hyp := (if_neg c16).symm.trans hyp
              obtain ⟨x17, e18, hyp⟩ := Option.bind_eq_some_iff.mp hyp
              obtain ⟨x19, e20, hyp⟩ := Option.bind_eq_some_iff.mp hyp
              refine rt_st (pc1 := 86) (fun _ _ B => go_if_ne_t 78 d_M_way_70 rfl c16 (go_aload_n 1 d_M_way_78 rfl (go_aload_n 1 d_M_way_79 rfl (go_gfr d_M_way_80 fd_11_15 w1004 e18 (go_callV1 (q := q_11) (st := []) [va_rf x17] (t_M_firstOf F v0 x17 x13.2 _ (onc_spec e20).2) mm_M_firstOf (by decide) d_M_way_83 (onc_spec e20).1 rfl rfl w1258 w1260 w45 rfl (Nat.le_of_ble_eq_true rfl) rfl B))))) ?_
              exact rt_eqW Value.int hyp (rt_int d_M_way_86 rfl)
/-! WideTurnModel.turned(I)I -/
def f_M_turned (F : Nat) (v0 : Option Nat) (v1 : Int32) (h : MH) : Option (Int32 × MH) :=
  Option.bind (pfv h v0 [11] 0 (.int (0 : Int32))) fun h1 =>
  Option.bind (gfr h1 v0 [11] 15) fun x3 =>
  Option.bind (ald h1 x3 0 (0 : Int32)) fun x5 =>
  if x5 = 0 then
    some ((-1000002 : Int32), h1)
  else
    if (f_M_in v1 (0 : Int32) (1 : Int32)) = 0 then
      some ((-1000001 : Int32), h1)
    else
      Option.bind (gfr h1 v0 [11] 15) fun x9 =>
      Option.bind (onc h1 v0 11 (f_M_turnedOf F v0 x9 (0 : Int32) h1)) fun x11 =>
      if x11.1 = (-1000000 : Int32) then
        some (x11.1, x11.2)
      else
        if v1 = 0 then
          some (x11.1, x11.2)
        else
          Option.bind (gfr x11.2 v0 [11] 15) fun x15 =>
          Option.bind (onc x11.2 v0 11 (f_M_firstOf F v0 x15 x11.2)) fun x17 =>
          some (x17.1, x17.2)
set_option maxHeartbeats 4000000 in
set_option maxRecDepth 200000 in
theorem t_M_turned (F : Nat) (v0 : Option Nat) (v1 : Int32) (h : MH) (r : (Int32 × MH)) (hyp : f_M_turned F v0 v1 h = some r) : Mt mi_M_turned 9 [va_rf v0, .int v1] h (some (.int r.1)) r.2 := by
  refine Mt.rt (lv := [(0, va_rf v0), (1, .int v1)]) (by decide +kernel) (by simp [lv_args, mj_rfc, mj_cti, mj_ctl]) (by simp [mj_rfc, mj_cti, mj_ctl]) ?_
  unfold f_M_turned at hyp
  obtain ⟨h1, e2, hyp⟩ := Option.bind_eq_some_iff.mp hyp
  obtain ⟨x3, e4, hyp⟩ := Option.bind_eq_some_iff.mp hyp
  obtain ⟨x5, e6, hyp⟩ := Option.bind_eq_some_iff.mp hyp
  refine rt_st (pc1 := 11) (fun _ _ B => go_aload_n 0 d_M_turned_0 rfl (go_iconst (v := (0 : Int32)) d_M_turned_1 (by decide) (go_pfi d_M_turned_2 fd_11_0 w989 (fun q => by cases q) e2 (go_aload_n 0 d_M_turned_5 rfl (go_gfr d_M_turned_6 fd_11_15 w1004 e4 (go_iconst (v := (0 : Int32)) d_M_turned_9 (by decide) (go_iald d_M_turned_10 e6 B))))))) ?_
  by_cases c7 : x5 = 0
  · replace hyp := (if_pos c7).symm.trans hyp
    refine rt_st (pc1 := 16) (fun _ _ B => go_if_ne_f d_M_turned_11 rfl c7 (go_ldc (v := (-1000002 : Int32)) d_M_turned_14 w1164 B)) ?_
    exact rt_eqW Value.int hyp (rt_int d_M_turned_16 rfl)
  · replace hyp := (if_neg c7).symm.trans hyp
    refine rt_st (pc1 := 23) (fun _ _ B => go_if_ne_t 17 d_M_turned_11 rfl c7 (go_iload_n 1 d_M_turned_17 rfl (go_iconst (v := (0 : Int32)) d_M_turned_18 (by decide) (go_iconst (v := (1 : Int32)) d_M_turned_19 (by decide) (go_callS1 (st := []) [.int v1, .int (0 : Int32), .int (1 : Int32)] (t_M_in v1 (0 : Int32) (1 : Int32) h1) mm_M_in (by decide) d_M_turned_20 w1073 w1074 rfl (Nat.le_of_ble_eq_true rfl) rfl B))))) ?_
    by_cases c8 : (f_M_in v1 (0 : Int32) (1 : Int32)) = 0
    · replace hyp := (if_pos c8).symm.trans hyp
      refine rt_st (pc1 := 28) (fun _ _ B => go_if_ne_f d_M_turned_23 rfl c8 (go_ldc (v := (-1000001 : Int32)) d_M_turned_26 w1076 B)) ?_
      exact rt_eqW Value.int hyp (rt_int d_M_turned_28 rfl)
    · replace hyp := (if_neg c8).symm.trans hyp
      obtain ⟨x9, e10, hyp⟩ := Option.bind_eq_some_iff.mp hyp
      obtain ⟨x11, e12, hyp⟩ := Option.bind_eq_some_iff.mp hyp
      refine rt_st (pc1 := 42) (fun _ _ B => go_if_ne_t 29 d_M_turned_23 rfl c8 (go_aload_n 0 d_M_turned_29 rfl (go_aload_n 0 d_M_turned_30 rfl (go_gfr d_M_turned_31 fd_11_15 w1004 e10 (go_iconst (v := (0 : Int32)) d_M_turned_34 (by decide) (go_callV1 (q := q_11) (st := []) [va_rf x9, .int (0 : Int32)] (t_M_turnedOf F v0 x9 (0 : Int32) h1 _ (onc_spec e12).2) mm_M_turnedOf (by decide) d_M_turned_35 (onc_spec e12).1 rfl rfl w1266 w1268 w46 rfl (Nat.le_of_ble_eq_true rfl) rfl (go_istore_n (lv1 := [(2, .int x11.1), (0, va_rf v0), (1, .int v1)]) d_M_turned_38 (by decide) rfl (go_iload_n 0 d_M_turned_39 rfl (go_ldc (v := (-1000000 : Int32)) d_M_turned_40 w1239 B))))))))) ?_
      by_cases c13 : x11.1 = (-1000000 : Int32)
      · replace hyp := (if_pos c13).symm.trans hyp
        refine rt_st (pc1 := 61) (fun _ _ B => go_icmp_eq_t 49 d_M_turned_42 rfl c13 (go_iload_n 0 d_M_turned_49 rfl (go_goto 61 d_M_turned_50 rfl B))) ?_
        exact rt_eqW Value.int hyp (rt_int d_M_turned_61 rfl)
      · replace hyp := (if_neg c13).symm.trans hyp
        refine rt_st (pc1 := 46) (fun _ _ B => go_icmp_eq_f d_M_turned_42 rfl c13 (go_iload_n 2 d_M_turned_45 rfl B)) ?_
        by_cases c14 : v1 = 0
        · replace hyp := (if_pos c14).symm.trans hyp
          refine rt_st (pc1 := 61) (fun _ _ B => go_if_ne_f d_M_turned_46 rfl c14 (go_iload_n 0 d_M_turned_49 rfl (go_goto 61 d_M_turned_50 rfl B))) ?_
          exact rt_eqW Value.int hyp (rt_int d_M_turned_61 rfl)
        · replace hyp := (if_neg c14).symm.trans hyp
          obtain ⟨x15, e16, hyp⟩ := Option.bind_eq_some_iff.mp hyp
          obtain ⟨x17, e18, hyp⟩ := Option.bind_eq_some_iff.mp hyp
          refine rt_st (pc1 := 61) (fun _ _ B => go_if_ne_t 53 d_M_turned_46 rfl c14 (go_aload_n 1 d_M_turned_53 rfl (go_aload_n 1 d_M_turned_54 rfl (go_gfr d_M_turned_55 fd_11_15 w1004 e16 (go_callV1 (q := q_11) (st := []) [va_rf x15] (t_M_firstOf F v0 x15 x11.2 _ (onc_spec e18).2) mm_M_firstOf (by decide) d_M_turned_58 (onc_spec e18).1 rfl rfl w1258 w1260 w45 rfl (Nat.le_of_ble_eq_true rfl) rfl B))))) ?_
          exact rt_eqW Value.int hyp (rt_int d_M_turned_61 rfl)
/-! WideTurnModel.inches()I -/
def b_M_inches_19 (F : Nat) : Nat → (Option Nat) → (Int32) → (MH) → (Option (Int32 × MH))
  | 0 => fun _ _ _ => none
  | n + 1 => fun v0 v1 h => 
    if (6 : Int32) ≤ v1 then
      some ((-1000000 : Int32), h)
    else
      Option.bind (gfr h v0 [11] 15) fun x2 =>
      Option.bind (onc h v0 11 (f_M_turnedOf F v0 x2 v1 h)) fun x4 =>
      if x4.1 = (-1000000 : Int32) then
        (b_M_inches_19 F n) v0 (v1 + (1 : Int32)) x4.2
      else
        some (v1, x4.2)
def f_M_inches (F : Nat) (v0 : Option Nat) (h : MH) : Option (Int32 × MH) :=
  Option.bind (pfv h v0 [11] 0 (.int (0 : Int32))) fun h1 =>
  Option.bind (gfr h1 v0 [11] 15) fun x3 =>
  Option.bind (ald h1 x3 0 (0 : Int32)) fun x5 =>
  if x5 = 0 then
    some ((-1000002 : Int32), h1)
  else
    b_M_inches_19 F F v0 (0 : Int32) h1
set_option maxHeartbeats 4000000 in
set_option maxRecDepth 200000 in
theorem p_M_inches_19 (F : Nat) {h0 : MH} : ∀ (n : Nat) (v0 : Option Nat) (v1 : Int32) (h : MH) (r : (Int32 × MH)), b_M_inches_19 F  n v0 v1 h = some r → Rt mi_M_inches 9 h0 19 [(0, va_rf v0), (1, .int v1)] [] h (some (.int r.1)) r.2 := by
  intro n
  induction n with
  | zero =>
    intro v0 v1 h r hyp
    cases hyp
  | succ n ih =>
    intro v0 v1 h r hyp
    unfold b_M_inches_19 at hyp
    refine rt_st (pc1 := 22) (fun _ _ B => go_iload_n 1 d_M_inches_19 rfl (go_bipush (v := (6 : Int32)) d_M_inches_20 (by decide) B)) ?_
    by_cases c1 : (6 : Int32) ≤ v1
    · replace hyp := (if_pos c1).symm.trans hyp
      refine rt_st (pc1 := 49) (fun _ _ B => go_icmp_ge_t 47 d_M_inches_22 rfl c1 (go_ldc (v := (-1000000 : Int32)) d_M_inches_47 w1239 B)) ?_
      exact rt_eqW Value.int hyp (rt_int d_M_inches_49 rfl)
    · replace hyp := (if_neg c1).symm.trans hyp
      obtain ⟨x2, e3, hyp⟩ := Option.bind_eq_some_iff.mp hyp
      obtain ⟨x4, e5, hyp⟩ := Option.bind_eq_some_iff.mp hyp
      refine rt_st (pc1 := 36) (fun _ _ B => go_icmp_ge_f d_M_inches_22 rfl c1 (go_aload_n 0 d_M_inches_25 rfl (go_aload_n 0 d_M_inches_26 rfl (go_gfr d_M_inches_27 fd_11_15 w1004 e3 (go_iload_n 1 d_M_inches_30 rfl (go_callV1 (q := q_11) (st := []) [va_rf x2, .int v1] (t_M_turnedOf F v0 x2 v1 h _ (onc_spec e5).2) mm_M_turnedOf (by decide) d_M_inches_31 (onc_spec e5).1 rfl rfl w1266 w1268 w46 rfl (Nat.le_of_ble_eq_true rfl) rfl (go_ldc (v := (-1000000 : Int32)) d_M_inches_34 w1239 B))))))) ?_
      by_cases c6 : x4.1 = (-1000000 : Int32)
      · replace hyp := (if_pos c6).symm.trans hyp
        refine rt_st (pc1 := 19) (fun _ _ B => go_icmp_eq_t 41 d_M_inches_36 rfl c6 (go_iinc (v := (v1 + (1 : Int32))) (lv1 := [(1, .int (v1 + (1 : Int32))), (0, va_rf v0)]) 1 d_M_inches_41 rfl rfl (by decide) (by first | (simp [mj_s1, mj_s2, mj_rfc, mj_cti, mj_ctl]; done) | (simp [mj_s1, mj_s2, mj_rfc, mj_cti, mj_ctl]; decide)) (go_goto 19 d_M_inches_44 rfl B))) ?_
        refine rt_sub [1, 0] (lv1 := [(0, va_rf v0), (1, .int (v1 + (1 : Int32)))]) rfl ?_
        exact ih _ _ _ _ hyp
      · replace hyp := (if_neg c6).symm.trans hyp
        refine rt_st (pc1 := 40) (fun _ _ B => go_icmp_eq_f d_M_inches_36 rfl c6 (go_iload_n 1 d_M_inches_39 rfl B)) ?_
        exact rt_eqW Value.int hyp (rt_int d_M_inches_40 rfl)
set_option maxHeartbeats 4000000 in
set_option maxRecDepth 200000 in
theorem t_M_inches (F : Nat) (v0 : Option Nat) (h : MH) (r : (Int32 × MH)) (hyp : f_M_inches F v0 h = some r) : Mt mi_M_inches 9 [va_rf v0] h (some (.int r.1)) r.2 := by
  refine Mt.rt (lv := [(0, va_rf v0)]) (by decide +kernel) (by simp [lv_args, mj_rfc, mj_cti, mj_ctl]) (by simp [mj_rfc, mj_cti, mj_ctl]) ?_
  unfold f_M_inches at hyp
  obtain ⟨h1, e2, hyp⟩ := Option.bind_eq_some_iff.mp hyp
  obtain ⟨x3, e4, hyp⟩ := Option.bind_eq_some_iff.mp hyp
  obtain ⟨x5, e6, hyp⟩ := Option.bind_eq_some_iff.mp hyp
  refine rt_st (pc1 := 11) (fun _ _ B => go_aload_n 0 d_M_inches_0 rfl (go_iconst (v := (0 : Int32)) d_M_inches_1 (by decide) (go_pfi d_M_inches_2 fd_11_0 w989 (fun q => by cases q) e2 (go_aload_n 0 d_M_inches_5 rfl (go_gfr d_M_inches_6 fd_11_15 w1004 e4 (go_iconst (v := (0 : Int32)) d_M_inches_9 (by decide) (go_iald d_M_inches_10 e6 B))))))) ?_
  by_cases c7 : x5 = 0
  · replace hyp := (if_pos c7).symm.trans hyp
    refine rt_st (pc1 := 16) (fun _ _ B => go_if_ne_f d_M_inches_11 rfl c7 (go_ldc (v := (-1000002 : Int32)) d_M_inches_14 w1164 B)) ?_
    exact rt_eqW Value.int hyp (rt_int d_M_inches_16 rfl)
  · replace hyp := (if_neg c7).symm.trans hyp
    refine rt_st (pc1 := 19) (fun _ _ B => go_if_ne_t 17 d_M_inches_11 rfl c7 (go_iconst (v := (0 : Int32)) d_M_inches_17 (by decide) (go_istore_n (lv1 := [(1, .int (0 : Int32)), (0, va_rf v0)]) d_M_inches_18 (by decide) (by first | (simp [mj_s1, mj_s2, mj_rfc, mj_cti, mj_ctl]; done) | (simp [mj_s1, mj_s2, mj_rfc, mj_cti, mj_ctl]; decide)) B))) ?_
    refine rt_sub [1, 0] (lv1 := [(0, va_rf v0), (1, .int (0 : Int32))]) rfl ?_
    exact p_M_inches_19 F F _ _ _ r hyp
/-! WideTurnModel.inTheWay(I)I -/
def b_M_inTheWay_137 (F : Nat) (k38 : (Option Nat) → Int32 → Int32 → Int32 → Int32 → MH → (Option (Int32 × MH))) : (Option Nat) → (Int32) → (Int32) → (Int32) → (Int32) → (MH) → (Option (Int32 × MH)) := fun v0 v1 v2 v3 v4 h => 
  k38 v0 v1 v2 v3 (v4 + (1 : Int32)) h
def b_M_inTheWay_136 (F : Nat) (k38 : (Option Nat) → Int32 → Int32 → Int32 → Int32 → MH → (Option (Int32 × MH))) : (Option Nat) → (Int32) → (Int32) → (Int32) → (Int32) → (MH) → (Option (Int32 × MH)) := fun v0 v1 v2 v4 s0 h => 
  b_M_inTheWay_137 F k38 v0 v1 v2 s0 v4 h
def b_M_inTheWay_135 (F : Nat) (k38 : (Option Nat) → Int32 → Int32 → Int32 → Int32 → MH → (Option (Int32 × MH))) : (Option Nat) → (Int32) → (Int32) → (Int32) → (Int32) → (MH) → (Option (Int32 × MH)) := fun v0 v1 v2 v3 v4 h => 
  b_M_inTheWay_136 F k38 v0 v1 v2 v4 v3 h
def b_M_inTheWay_116 (F : Nat) (k38 : (Option Nat) → Int32 → Int32 → Int32 → Int32 → MH → (Option (Int32 × MH))) : (Option Nat) → (Int32) → (Int32) → (Int32) → (Int32) → (Int32) → (MH) → (Option (Int32 × MH)) := fun v0 v1 v3 v4 v5 s0 h => 
  if v5 = (-1000000 : Int32) then
    b_M_inTheWay_135 F k38 v0 v1 s0 v3 v4 h
  else
    if v3 ≤ v5 then
      b_M_inTheWay_135 F k38 v0 v1 s0 v3 v4 h
    else
      b_M_inTheWay_136 F k38 v0 v1 s0 v4 v5 h
def b_M_inTheWay_115 (F : Nat) (k38 : (Option Nat) → Int32 → Int32 → Int32 → Int32 → MH → (Option (Int32 × MH))) : (Option Nat) → (Int32) → (Int32) → (Int32) → (Int32) → (Int32) → (MH) → (Option (Int32 × MH)) := fun v0 v1 v2 v3 v4 v5 h => 
  b_M_inTheWay_116 F k38 v0 v1 v3 v4 v5 v2 h
def b_M_inTheWay_38 (F : Nat) : Nat → (Option Nat) → (Int32) → (Int32) → (Int32) → (Int32) → (MH) → (Option (Int32 × MH))
  | 0 => fun _ _ _ _ _ _ => none
  | n + 1 => fun v0 v1 v2 v3 v4 h => 
    if (24 : Int32) ≤ v4 then
      if v2 = (-1000000 : Int32) then
        some (v2, h)
      else
        if v1 = 0 then
          some (v2, h)
        else
          some (v3, h)
    else
      Option.bind (gfr h v0 [11] 15) fun x4 =>
      Option.bind (ald h x4 0 (13 : Int32)) fun x6 =>
      if ((x6 >>> (v4 &&& 31)) &&& (1 : Int32)) = (1 : Int32) then
        Option.bind (gfr h v0 [11] 15) fun x9 =>
        Option.bind (gfr h v0 [11] 16) fun x11 =>
        Option.bind (f_M_copies F x9 x11 h) fun h13 =>
        Option.bind (gfr h13 v0 [11] 16) fun x15 =>
        Option.bind (ald h13 x15 0 (13 : Int32)) fun x17 =>
        Option.bind (ast h13 x15 0 (13 : Int32) (x17 ^^^ ((1 : Int32) <<< (v4 &&& 31)))) fun h19 =>
        Option.bind (gfr h19 v0 [11] 16) fun x21 =>
        Option.bind (onc h19 v0 11 (f_M_turnedOf F v0 x21 (0 : Int32) h19)) fun x23 =>
        if x23.1 = (-1000000 : Int32) then
          b_M_inTheWay_115 F (b_M_inTheWay_38 F n) v0 v1 v2 v3 v4 x23.1 x23.2
        else
          if v3 ≤ x23.1 then
            b_M_inTheWay_115 F (b_M_inTheWay_38 F n) v0 v1 v2 v3 v4 x23.1 x23.2
          else
            b_M_inTheWay_116 F (b_M_inTheWay_38 F n) v0 v1 v3 v4 x23.1 v4 x23.2
      else
        b_M_inTheWay_137 F (b_M_inTheWay_38 F n) v0 v1 v2 v3 v4 h
def f_M_inTheWay (F : Nat) (v0 : Option Nat) (v1 : Int32) (h : MH) : Option (Int32 × MH) :=
  Option.bind (pfv h v0 [11] 0 (.int (0 : Int32))) fun h1 =>
  Option.bind (gfr h1 v0 [11] 15) fun x3 =>
  Option.bind (ald h1 x3 0 (0 : Int32)) fun x5 =>
  if x5 = 0 then
    some ((-1000002 : Int32), h1)
  else
    if (f_M_in v1 (0 : Int32) (1 : Int32)) = 0 then
      some ((-1000001 : Int32), h1)
    else
      b_M_inTheWay_38 F F v0 v1 (-1000000 : Int32) (100000000 : Int32) (0 : Int32) h1
set_option maxHeartbeats 4000000 in
set_option maxRecDepth 200000 in
theorem p_M_inTheWay_137 (F : Nat) {h0 : MH} (k38 : (Option Nat) → Int32 → Int32 → Int32 → Int32 → MH → (Option (Int32 × MH))) (hk38 : ∀ (v0 : Option Nat) (v1 : Int32) (v2 : Int32) (v3 : Int32) (v4 : Int32) (h : MH) (r : (Int32 × MH)), k38 v0 v1 v2 v3 v4 h = some r → Rt mi_M_inTheWay 9 h0 38 [(0, va_rf v0), (1, .int v1), (2, .int v2), (3, .int v3), (4, .int v4)] [] h (some (.int r.1)) r.2) (v0 : Option Nat) (v1 : Int32) (v2 : Int32) (v3 : Int32) (v4 : Int32) (h : MH) (r : (Int32 × MH)) : b_M_inTheWay_137 F k38  v0 v1 v2 v3 v4 h = some r → Rt mi_M_inTheWay 9 h0 137 [(0, va_rf v0), (1, .int v1), (2, .int v2), (3, .int v3), (4, .int v4)] [] h (some (.int r.1)) r.2 := by
  intro hyp
  unfold b_M_inTheWay_137 at hyp
  refine rt_st (pc1 := 38) (fun _ _ B => go_iinc (v := (v4 + (1 : Int32))) (lv1 := [(4, .int (v4 + (1 : Int32))), (0, va_rf v0), (1, .int v1), (2, .int v2), (3, .int v3)]) 4 d_M_inTheWay_137 rfl rfl (by decide) rfl (go_goto 38 d_M_inTheWay_140 rfl B)) ?_
  refine rt_sub [1, 2, 3, 4, 0] (lv1 := [(0, va_rf v0), (1, .int v1), (2, .int v2), (3, .int v3), (4, .int (v4 + (1 : Int32)))]) rfl ?_
  exact hk38 _ _ _ _ _ _ _ hyp
set_option maxHeartbeats 4000000 in
set_option maxRecDepth 200000 in
theorem p_M_inTheWay_136 (F : Nat) {h0 : MH} (k38 : (Option Nat) → Int32 → Int32 → Int32 → Int32 → MH → (Option (Int32 × MH))) (hk38 : ∀ (v0 : Option Nat) (v1 : Int32) (v2 : Int32) (v3 : Int32) (v4 : Int32) (h : MH) (r : (Int32 × MH)), k38 v0 v1 v2 v3 v4 h = some r → Rt mi_M_inTheWay 9 h0 38 [(0, va_rf v0), (1, .int v1), (2, .int v2), (3, .int v3), (4, .int v4)] [] h (some (.int r.1)) r.2) (v0 : Option Nat) (v1 : Int32) (v2 : Int32) (v4 : Int32) (s0 : Int32) (h : MH) (r : (Int32 × MH)) : b_M_inTheWay_136 F k38  v0 v1 v2 v4 s0 h = some r → Rt mi_M_inTheWay 9 h0 136 [(0, va_rf v0), (1, .int v1), (2, .int v2), (4, .int v4)] [.int s0] h (some (.int r.1)) r.2 := by
  intro hyp
  unfold b_M_inTheWay_136 at hyp
  refine rt_st (pc1 := 137) (fun _ _ B => go_istore_n (lv1 := [(3, .int s0), (0, va_rf v0), (1, .int v1), (2, .int v2), (4, .int v4)]) d_M_inTheWay_136 (by decide) rfl B) ?_
  refine rt_sub [1, 2, 3, 0, 4] (lv1 := [(0, va_rf v0), (1, .int v1), (2, .int v2), (3, .int s0), (4, .int v4)]) rfl ?_
  exact p_M_inTheWay_137 F k38 hk38 _ _ _ _ _ _ r hyp
set_option maxHeartbeats 4000000 in
set_option maxRecDepth 200000 in
theorem p_M_inTheWay_135 (F : Nat) {h0 : MH} (k38 : (Option Nat) → Int32 → Int32 → Int32 → Int32 → MH → (Option (Int32 × MH))) (hk38 : ∀ (v0 : Option Nat) (v1 : Int32) (v2 : Int32) (v3 : Int32) (v4 : Int32) (h : MH) (r : (Int32 × MH)), k38 v0 v1 v2 v3 v4 h = some r → Rt mi_M_inTheWay 9 h0 38 [(0, va_rf v0), (1, .int v1), (2, .int v2), (3, .int v3), (4, .int v4)] [] h (some (.int r.1)) r.2) (v0 : Option Nat) (v1 : Int32) (v2 : Int32) (v3 : Int32) (v4 : Int32) (h : MH) (r : (Int32 × MH)) : b_M_inTheWay_135 F k38  v0 v1 v2 v3 v4 h = some r → Rt mi_M_inTheWay 9 h0 135 [(0, va_rf v0), (1, .int v1), (2, .int v2), (3, .int v3), (4, .int v4)] [] h (some (.int r.1)) r.2 := by
  intro hyp
  unfold b_M_inTheWay_135 at hyp
  refine rt_st (pc1 := 136) (fun _ _ B => go_iload_n 3 d_M_inTheWay_135 rfl B) ?_
  refine rt_sub [0, 1, 2, 4] (lv1 := [(0, va_rf v0), (1, .int v1), (2, .int v2), (4, .int v4)]) rfl ?_
  exact p_M_inTheWay_136 F k38 hk38 _ _ _ _ _ _ r hyp
set_option maxHeartbeats 4000000 in
set_option maxRecDepth 200000 in
theorem p_M_inTheWay_116 (F : Nat) {h0 : MH} (k38 : (Option Nat) → Int32 → Int32 → Int32 → Int32 → MH → (Option (Int32 × MH))) (hk38 : ∀ (v0 : Option Nat) (v1 : Int32) (v2 : Int32) (v3 : Int32) (v4 : Int32) (h : MH) (r : (Int32 × MH)), k38 v0 v1 v2 v3 v4 h = some r → Rt mi_M_inTheWay 9 h0 38 [(0, va_rf v0), (1, .int v1), (2, .int v2), (3, .int v3), (4, .int v4)] [] h (some (.int r.1)) r.2) (v0 : Option Nat) (v1 : Int32) (v3 : Int32) (v4 : Int32) (v5 : Int32) (s0 : Int32) (h : MH) (r : (Int32 × MH)) : b_M_inTheWay_116 F k38  v0 v1 v3 v4 v5 s0 h = some r → Rt mi_M_inTheWay 9 h0 116 [(0, va_rf v0), (1, .int v1), (3, .int v3), (4, .int v4), (5, .int v5)] [.int s0] h (some (.int r.1)) r.2 := by
  intro hyp
  unfold b_M_inTheWay_116 at hyp
  refine rt_st (pc1 := 121) (fun _ _ B => go_istore_n (lv1 := [(2, .int s0), (0, va_rf v0), (1, .int v1), (3, .int v3), (4, .int v4), (5, .int v5)]) d_M_inTheWay_116 (by decide) rfl (go_iload 5 d_M_inTheWay_117 rfl (go_ldc (v := (-1000000 : Int32)) d_M_inTheWay_119 w1239 B))) ?_
  by_cases c1 : v5 = (-1000000 : Int32)
  · replace hyp := (if_pos c1).symm.trans hyp
    refine rt_st (pc1 := 135) (fun _ _ B => go_icmp_eq_t 135 d_M_inTheWay_121 rfl c1 B) ?_
    refine rt_sub [1, 2, 0, 3, 4] (lv1 := [(0, va_rf v0), (1, .int v1), (2, .int s0), (3, .int v3), (4, .int v4)]) rfl ?_
    exact p_M_inTheWay_135 F k38 hk38 _ _ _ _ _ _ r hyp
  · replace hyp := (if_neg c1).symm.trans hyp
    refine rt_st (pc1 := 127) (fun _ _ B => go_icmp_eq_f d_M_inTheWay_121 rfl c1 (go_iload 5 d_M_inTheWay_124 rfl (go_iload_n 3 d_M_inTheWay_126 rfl B))) ?_
    by_cases c2 : v3 ≤ v5
    · replace hyp := (if_pos c2).symm.trans hyp
      refine rt_st (pc1 := 135) (fun _ _ B => go_icmp_ge_t 135 d_M_inTheWay_127 rfl c2 B) ?_
      refine rt_sub [1, 2, 0, 3, 4] (lv1 := [(0, va_rf v0), (1, .int v1), (2, .int s0), (3, .int v3), (4, .int v4)]) rfl ?_
      exact p_M_inTheWay_135 F k38 hk38 _ _ _ _ _ _ r hyp
    · replace hyp := (if_neg c2).symm.trans hyp
      refine rt_st (pc1 := 136) (fun _ _ B => go_icmp_ge_f d_M_inTheWay_127 rfl c2 (go_iload 5 d_M_inTheWay_130 rfl (go_goto 136 d_M_inTheWay_132 rfl B))) ?_
      refine rt_sub [1, 2, 0, 4] (lv1 := [(0, va_rf v0), (1, .int v1), (2, .int s0), (4, .int v4)]) rfl ?_
      exact p_M_inTheWay_136 F k38 hk38 _ _ _ _ _ _ r hyp
set_option maxHeartbeats 4000000 in
set_option maxRecDepth 200000 in
theorem p_M_inTheWay_115 (F : Nat) {h0 : MH} (k38 : (Option Nat) → Int32 → Int32 → Int32 → Int32 → MH → (Option (Int32 × MH))) (hk38 : ∀ (v0 : Option Nat) (v1 : Int32) (v2 : Int32) (v3 : Int32) (v4 : Int32) (h : MH) (r : (Int32 × MH)), k38 v0 v1 v2 v3 v4 h = some r → Rt mi_M_inTheWay 9 h0 38 [(0, va_rf v0), (1, .int v1), (2, .int v2), (3, .int v3), (4, .int v4)] [] h (some (.int r.1)) r.2) (v0 : Option Nat) (v1 : Int32) (v2 : Int32) (v3 : Int32) (v4 : Int32) (v5 : Int32) (h : MH) (r : (Int32 × MH)) : b_M_inTheWay_115 F k38  v0 v1 v2 v3 v4 v5 h = some r → Rt mi_M_inTheWay 9 h0 115 [(0, va_rf v0), (1, .int v1), (2, .int v2), (3, .int v3), (4, .int v4), (5, .int v5)] [] h (some (.int r.1)) r.2 := by
  intro hyp
  unfold b_M_inTheWay_115 at hyp
  refine rt_st (pc1 := 116) (fun _ _ B => go_iload_n 2 d_M_inTheWay_115 rfl B) ?_
  refine rt_sub [0, 1, 3, 4, 5] (lv1 := [(0, va_rf v0), (1, .int v1), (3, .int v3), (4, .int v4), (5, .int v5)]) rfl ?_
  exact p_M_inTheWay_116 F k38 hk38 _ _ _ _ _ _ _ r hyp
set_option maxHeartbeats 4000000 in
set_option maxRecDepth 200000 in
theorem p_M_inTheWay_38 (F : Nat) {h0 : MH} : ∀ (n : Nat) (v0 : Option Nat) (v1 : Int32) (v2 : Int32) (v3 : Int32) (v4 : Int32) (h : MH) (r : (Int32 × MH)), b_M_inTheWay_38 F  n v0 v1 v2 v3 v4 h = some r → Rt mi_M_inTheWay 9 h0 38 [(0, va_rf v0), (1, .int v1), (2, .int v2), (3, .int v3), (4, .int v4)] [] h (some (.int r.1)) r.2 := by
  intro n
  induction n with
  | zero =>
    intro v0 v1 v2 v3 v4 h r hyp
    cases hyp
  | succ n ih =>
    intro v0 v1 v2 v3 v4 h r hyp
    unfold b_M_inTheWay_38 at hyp
    refine rt_st (pc1 := 42) (fun _ _ B => go_iload 4 d_M_inTheWay_38 rfl (go_bipush (v := (24 : Int32)) d_M_inTheWay_40 (by decide) B)) ?_
    by_cases c1 : (24 : Int32) ≤ v4
    · replace hyp := (if_pos c1).symm.trans hyp
      refine rt_st (pc1 := 146) (fun _ _ B => go_icmp_ge_t 143 d_M_inTheWay_42 rfl c1 (go_iload_n 2 d_M_inTheWay_143 rfl (go_ldc (v := (-1000000 : Int32)) d_M_inTheWay_144 w1239 B))) ?_
      by_cases c2 : v2 = (-1000000 : Int32)
      · replace hyp := (if_pos c2).symm.trans hyp
        refine rt_st (pc1 := 158) (fun _ _ B => go_icmp_eq_t 153 d_M_inTheWay_146 rfl c2 (go_iload_n 2 d_M_inTheWay_153 rfl (go_goto 158 d_M_inTheWay_154 rfl B))) ?_
        exact rt_eqW Value.int hyp (rt_int d_M_inTheWay_158 rfl)
      · replace hyp := (if_neg c2).symm.trans hyp
        refine rt_st (pc1 := 150) (fun _ _ B => go_icmp_eq_f d_M_inTheWay_146 rfl c2 (go_iload_n 1 d_M_inTheWay_149 rfl B)) ?_
        by_cases c3 : v1 = 0
        · replace hyp := (if_pos c3).symm.trans hyp
          refine rt_st (pc1 := 158) (fun _ _ B => go_if_ne_f d_M_inTheWay_150 rfl c3 (go_iload_n 2 d_M_inTheWay_153 rfl (go_goto 158 d_M_inTheWay_154 rfl B))) ?_
          exact rt_eqW Value.int hyp (rt_int d_M_inTheWay_158 rfl)
        · replace hyp := (if_neg c3).symm.trans hyp
          refine rt_st (pc1 := 158) (fun _ _ B => go_if_ne_t 157 d_M_inTheWay_150 rfl c3 (go_iload_n 3 d_M_inTheWay_157 rfl B)) ?_
          exact rt_eqW Value.int hyp (rt_int d_M_inTheWay_158 rfl)
    · replace hyp := (if_neg c1).symm.trans hyp
      obtain ⟨x4, e5, hyp⟩ := Option.bind_eq_some_iff.mp hyp
      obtain ⟨x6, e7, hyp⟩ := Option.bind_eq_some_iff.mp hyp
      refine rt_st (pc1 := 58) (fun _ _ B => go_icmp_ge_f d_M_inTheWay_42 rfl c1 (go_aload_n 0 d_M_inTheWay_45 rfl (go_gfr d_M_inTheWay_46 fd_11_15 w1004 e5 (go_bipush (v := (13 : Int32)) d_M_inTheWay_49 (by decide) (go_iald d_M_inTheWay_51 e7 (go_iload 4 d_M_inTheWay_52 rfl (go_ishr d_M_inTheWay_54 (go_iconst (v := (1 : Int32)) d_M_inTheWay_55 (by decide) (go_iand d_M_inTheWay_56 (go_iconst (v := (1 : Int32)) d_M_inTheWay_57 (by decide) B)))))))))) ?_
      by_cases c8 : ((x6 >>> (v4 &&& 31)) &&& (1 : Int32)) = (1 : Int32)
      · replace hyp := (if_pos c8).symm.trans hyp
        obtain ⟨x9, e10, hyp⟩ := Option.bind_eq_some_iff.mp hyp
        obtain ⟨x11, e12, hyp⟩ := Option.bind_eq_some_iff.mp hyp
        obtain ⟨h13, e14, hyp⟩ := Option.bind_eq_some_iff.mp hyp
        obtain ⟨x15, e16, hyp⟩ := Option.bind_eq_some_iff.mp hyp
        obtain ⟨x17, e18, hyp⟩ := Option.bind_eq_some_iff.mp hyp
        obtain ⟨h19, e20, hyp⟩ := Option.bind_eq_some_iff.mp hyp
        obtain ⟨x21, e22, hyp⟩ := Option.bind_eq_some_iff.mp hyp
        obtain ⟨x23, e24, hyp⟩ := Option.bind_eq_some_iff.mp hyp
        refine rt_st (pc1 := 101) (fun _ _ B => go_icmp_ne_f d_M_inTheWay_58 rfl c8 (go_aload_n 0 d_M_inTheWay_61 rfl (go_gfr d_M_inTheWay_62 fd_11_15 w1004 e10 (go_aload_n 0 d_M_inTheWay_65 rfl (go_gfr d_M_inTheWay_66 fd_11_16 w1005 e12 (go_callS0 (st := []) [va_rf x9, va_rf x11] (t_M_copies F x9 x11 h _ e14) mm_M_copies (by decide) d_M_inTheWay_69 w1153 w1154 rfl (Nat.le_of_ble_eq_true rfl) rfl (go_aload_n 0 d_M_inTheWay_72 rfl (go_gfr d_M_inTheWay_73 fd_11_16 w1005 e16 (go_bipush (v := (13 : Int32)) d_M_inTheWay_76 (by decide) (go_dup2 d_M_inTheWay_78 rfl (mj_rfc _) (go_iald d_M_inTheWay_79 e18 (go_iconst (v := (1 : Int32)) d_M_inTheWay_80 (by decide) (go_iload 4 d_M_inTheWay_81 rfl (go_ishl d_M_inTheWay_83 (go_ixor d_M_inTheWay_84 (go_iast d_M_inTheWay_85 e20 (go_aload_n 0 d_M_inTheWay_86 rfl (go_aload_n 0 d_M_inTheWay_87 rfl (go_gfr d_M_inTheWay_88 fd_11_16 w1005 e22 (go_iconst (v := (0 : Int32)) d_M_inTheWay_91 (by decide) (go_callV1 (q := q_11) (st := []) [va_rf x21, .int (0 : Int32)] (t_M_turnedOf F v0 x21 (0 : Int32) h19 _ (onc_spec e24).2) mm_M_turnedOf (by decide) d_M_inTheWay_92 (onc_spec e24).1 rfl rfl w1266 w1268 w46 rfl (Nat.le_of_ble_eq_true rfl) rfl (go_istore (lv1 := [(5, .int x23.1), (0, va_rf v0), (1, .int v1), (2, .int v2), (3, .int v3), (4, .int v4)]) d_M_inTheWay_95 (by decide) rfl (go_iload 0 d_M_inTheWay_97 rfl (go_ldc (v := (-1000000 : Int32)) d_M_inTheWay_99 w1239 B)))))))))))))))))))))))) ?_
        by_cases c25 : x23.1 = (-1000000 : Int32)
        · replace hyp := (if_pos c25).symm.trans hyp
          refine rt_st (pc1 := 115) (fun _ _ B => go_icmp_eq_t 115 d_M_inTheWay_101 rfl c25 B) ?_
          refine rt_sub [1, 2, 3, 4, 5, 0] (lv1 := [(0, va_rf v0), (1, .int v1), (2, .int v2), (3, .int v3), (4, .int v4), (5, .int x23.1)]) rfl ?_
          exact p_M_inTheWay_115 F (b_M_inTheWay_38 F n) (fun a0 a1 a2 a3 a4 a5 r hyp => ih a0 a1 a2 a3 a4 a5 r hyp) _ _ _ _ _ _ _ r hyp
        · replace hyp := (if_neg c25).symm.trans hyp
          refine rt_st (pc1 := 107) (fun _ _ B => go_icmp_eq_f d_M_inTheWay_101 rfl c25 (go_iload 0 d_M_inTheWay_104 rfl (go_iload_n 4 d_M_inTheWay_106 rfl B))) ?_
          by_cases c26 : v3 ≤ x23.1
          · replace hyp := (if_pos c26).symm.trans hyp
            refine rt_st (pc1 := 115) (fun _ _ B => go_icmp_ge_t 115 d_M_inTheWay_107 rfl c26 B) ?_
            refine rt_sub [1, 2, 3, 4, 5, 0] (lv1 := [(0, va_rf v0), (1, .int v1), (2, .int v2), (3, .int v3), (4, .int v4), (5, .int x23.1)]) rfl ?_
            exact p_M_inTheWay_115 F (b_M_inTheWay_38 F n) (fun a0 a1 a2 a3 a4 a5 r hyp => ih a0 a1 a2 a3 a4 a5 r hyp) _ _ _ _ _ _ _ r hyp
          · replace hyp := (if_neg c26).symm.trans hyp
            refine rt_st (pc1 := 116) (fun _ _ B => go_icmp_ge_f d_M_inTheWay_107 rfl c26 (go_iload 5 d_M_inTheWay_110 rfl (go_goto 116 d_M_inTheWay_112 rfl B))) ?_
            refine rt_sub [1, 2, 4, 5, 0] (lv1 := [(0, va_rf v0), (1, .int v1), (3, .int v3), (4, .int v4), (5, .int x23.1)]) rfl ?_
            exact p_M_inTheWay_116 F (b_M_inTheWay_38 F n) (fun a0 a1 a2 a3 a4 a5 r hyp => ih a0 a1 a2 a3 a4 a5 r hyp) _ _ _ _ _ _ _ r hyp
      · replace hyp := (if_neg c8).symm.trans hyp
        refine rt_st (pc1 := 137) (fun _ _ B => go_icmp_ne_t 137 d_M_inTheWay_58 rfl c8 B) ?_
        exact p_M_inTheWay_137 F (b_M_inTheWay_38 F n) (fun a0 a1 a2 a3 a4 a5 r hyp => ih a0 a1 a2 a3 a4 a5 r hyp) _ _ _ _ _ _ r hyp
set_option maxHeartbeats 4000000 in
set_option maxRecDepth 200000 in
theorem t_M_inTheWay (F : Nat) (v0 : Option Nat) (v1 : Int32) (h : MH) (r : (Int32 × MH)) (hyp : f_M_inTheWay F v0 v1 h = some r) : Mt mi_M_inTheWay 9 [va_rf v0, .int v1] h (some (.int r.1)) r.2 := by
  refine Mt.rt (lv := [(0, va_rf v0), (1, .int v1)]) (by decide +kernel) (by simp [lv_args, mj_rfc, mj_cti, mj_ctl]) (by simp [mj_rfc, mj_cti, mj_ctl]) ?_
  unfold f_M_inTheWay at hyp
  obtain ⟨h1, e2, hyp⟩ := Option.bind_eq_some_iff.mp hyp
  obtain ⟨x3, e4, hyp⟩ := Option.bind_eq_some_iff.mp hyp
  obtain ⟨x5, e6, hyp⟩ := Option.bind_eq_some_iff.mp hyp
  refine rt_st (pc1 := 11) (fun _ _ B => go_aload_n 0 d_M_inTheWay_0 rfl (go_iconst (v := (0 : Int32)) d_M_inTheWay_1 (by decide) (go_pfi d_M_inTheWay_2 fd_11_0 w989 (fun q => by cases q) e2 (go_aload_n 0 d_M_inTheWay_5 rfl (go_gfr d_M_inTheWay_6 fd_11_15 w1004 e4 (go_iconst (v := (0 : Int32)) d_M_inTheWay_9 (by decide) (go_iald d_M_inTheWay_10 e6 B))))))) ?_
  by_cases c7 : x5 = 0
  · replace hyp := (if_pos c7).symm.trans hyp
    refine rt_st (pc1 := 16) (fun _ _ B => go_if_ne_f d_M_inTheWay_11 rfl c7 (go_ldc (v := (-1000002 : Int32)) d_M_inTheWay_14 w1164 B)) ?_
    exact rt_eqW Value.int hyp (rt_int d_M_inTheWay_16 rfl)
  · replace hyp := (if_neg c7).symm.trans hyp
    refine rt_st (pc1 := 23) (fun _ _ B => go_if_ne_t 17 d_M_inTheWay_11 rfl c7 (go_iload_n 1 d_M_inTheWay_17 rfl (go_iconst (v := (0 : Int32)) d_M_inTheWay_18 (by decide) (go_iconst (v := (1 : Int32)) d_M_inTheWay_19 (by decide) (go_callS1 (st := []) [.int v1, .int (0 : Int32), .int (1 : Int32)] (t_M_in v1 (0 : Int32) (1 : Int32) h1) mm_M_in (by decide) d_M_inTheWay_20 w1073 w1074 rfl (Nat.le_of_ble_eq_true rfl) rfl B))))) ?_
    by_cases c8 : (f_M_in v1 (0 : Int32) (1 : Int32)) = 0
    · replace hyp := (if_pos c8).symm.trans hyp
      refine rt_st (pc1 := 28) (fun _ _ B => go_if_ne_f d_M_inTheWay_23 rfl c8 (go_ldc (v := (-1000001 : Int32)) d_M_inTheWay_26 w1076 B)) ?_
      exact rt_eqW Value.int hyp (rt_int d_M_inTheWay_28 rfl)
    · replace hyp := (if_neg c8).symm.trans hyp
      refine rt_st (pc1 := 38) (fun _ _ B => go_if_ne_t 29 d_M_inTheWay_23 rfl c8 (go_ldc (v := (-1000000 : Int32)) d_M_inTheWay_29 w1239 (go_istore_n (lv1 := [(2, .int (-1000000 : Int32)), (0, va_rf v0), (1, .int v1)]) d_M_inTheWay_31 (by decide) rfl (go_ldc (v := (100000000 : Int32)) d_M_inTheWay_32 w1248 (go_istore_n (lv1 := [(3, .int (100000000 : Int32)), (2, .int (-1000000 : Int32)), (0, va_rf v0), (1, .int v1)]) d_M_inTheWay_34 (by decide) rfl (go_iconst (v := (0 : Int32)) d_M_inTheWay_35 (by decide) (go_istore (lv1 := [(4, .int (0 : Int32)), (3, .int (100000000 : Int32)), (2, .int (-1000000 : Int32)), (0, va_rf v0), (1, .int v1)]) d_M_inTheWay_36 (by decide) rfl B))))))) ?_
      refine rt_sub [3, 4, 2, 1, 0] (lv1 := [(0, va_rf v0), (1, .int v1), (2, .int (-1000000 : Int32)), (3, .int (100000000 : Int32)), (4, .int (0 : Int32))]) rfl ?_
      exact p_M_inTheWay_38 F F _ _ _ _ _ _ r hyp
/-! WideTurnModel.dig(I)I -/
def b_M_dig_118 (F : Nat) (k38 : (Option Nat) → Int32 → Int32 → Int32 → Int32 → MH → (Option (Int32 × MH))) : (Option Nat) → (Int32) → (Int32) → (Int32) → (Int32) → (MH) → (Option (Int32 × MH)) := fun v0 v1 v2 v4 s0 h => 
  k38 v0 v1 v2 s0 (v4 + (1 : Int32)) h
def b_M_dig_117 (F : Nat) (k38 : (Option Nat) → Int32 → Int32 → Int32 → Int32 → MH → (Option (Int32 × MH))) : (Option Nat) → (Int32) → (Int32) → (Int32) → (Int32) → (MH) → (Option (Int32 × MH)) := fun v0 v1 v2 v3 v4 h => 
  b_M_dig_118 F k38 v0 v1 v2 v4 v3 h
def b_M_dig_98 (F : Nat) (k38 : (Option Nat) → Int32 → Int32 → Int32 → Int32 → MH → (Option (Int32 × MH))) : (Option Nat) → (Int32) → (Int32) → (Int32) → (Int32) → (Int32) → (MH) → (Option (Int32 × MH)) := fun v0 v1 v3 v4 v5 s0 h => 
  if v5 = (-1000000 : Int32) then
    b_M_dig_117 F k38 v0 v1 s0 v3 v4 h
  else
    if v3 ≤ v5 then
      b_M_dig_117 F k38 v0 v1 s0 v3 v4 h
    else
      b_M_dig_118 F k38 v0 v1 s0 v4 v5 h
def b_M_dig_97 (F : Nat) (k38 : (Option Nat) → Int32 → Int32 → Int32 → Int32 → MH → (Option (Int32 × MH))) : (Option Nat) → (Int32) → (Int32) → (Int32) → (Int32) → (Int32) → (MH) → (Option (Int32 × MH)) := fun v0 v1 v2 v3 v4 v5 h => 
  b_M_dig_98 F k38 v0 v1 v3 v4 v5 v2 h
def b_M_dig_38 (F : Nat) : Nat → (Option Nat) → (Int32) → (Int32) → (Int32) → (Int32) → (MH) → (Option (Int32 × MH))
  | 0 => fun _ _ _ _ _ _ => none
  | n + 1 => fun v0 v1 v2 v3 v4 h => 
    if (24 : Int32) ≤ v4 then
      if v2 = (-1000000 : Int32) then
        some (v2, h)
      else
        if v1 = 0 then
          some (v2, h)
        else
          some (v3, h)
    else
      Option.bind (gfr h v0 [11] 15) fun x4 =>
      Option.bind (gfr h v0 [11] 16) fun x6 =>
      Option.bind (f_M_copies F x4 x6 h) fun h8 =>
      Option.bind (gfr h8 v0 [11] 16) fun x10 =>
      Option.bind (ast h8 x10 0 ((18 : Int32) + v4) (9 : Int32)) fun h12 =>
      Option.bind (gfr h12 v0 [11] 16) fun x14 =>
      Option.bind (onc h12 v0 11 (f_M_turnedOf F v0 x14 (0 : Int32) h12)) fun x16 =>
      if x16.1 = (-1000000 : Int32) then
        b_M_dig_97 F (b_M_dig_38 F n) v0 v1 v2 v3 v4 x16.1 x16.2
      else
        if v3 ≤ x16.1 then
          b_M_dig_97 F (b_M_dig_38 F n) v0 v1 v2 v3 v4 x16.1 x16.2
        else
          b_M_dig_98 F (b_M_dig_38 F n) v0 v1 v3 v4 x16.1 v4 x16.2
def f_M_dig (F : Nat) (v0 : Option Nat) (v1 : Int32) (h : MH) : Option (Int32 × MH) :=
  Option.bind (pfv h v0 [11] 0 (.int (0 : Int32))) fun h1 =>
  Option.bind (gfr h1 v0 [11] 15) fun x3 =>
  Option.bind (ald h1 x3 0 (0 : Int32)) fun x5 =>
  if x5 = 0 then
    some ((-1000002 : Int32), h1)
  else
    if (f_M_in v1 (0 : Int32) (1 : Int32)) = 0 then
      some ((-1000001 : Int32), h1)
    else
      b_M_dig_38 F F v0 v1 (-1000000 : Int32) (100000000 : Int32) (0 : Int32) h1
set_option maxHeartbeats 4000000 in
set_option maxRecDepth 200000 in
theorem p_M_dig_118 (F : Nat) {h0 : MH} (k38 : (Option Nat) → Int32 → Int32 → Int32 → Int32 → MH → (Option (Int32 × MH))) (hk38 : ∀ (v0 : Option Nat) (v1 : Int32) (v2 : Int32) (v3 : Int32) (v4 : Int32) (h : MH) (r : (Int32 × MH)), k38 v0 v1 v2 v3 v4 h = some r → Rt mi_M_dig 9 h0 38 [(0, va_rf v0), (1, .int v1), (2, .int v2), (3, .int v3), (4, .int v4)] [] h (some (.int r.1)) r.2) (v0 : Option Nat) (v1 : Int32) (v2 : Int32) (v4 : Int32) (s0 : Int32) (h : MH) (r : (Int32 × MH)) : b_M_dig_118 F k38  v0 v1 v2 v4 s0 h = some r → Rt mi_M_dig 9 h0 118 [(0, va_rf v0), (1, .int v1), (2, .int v2), (4, .int v4)] [.int s0] h (some (.int r.1)) r.2 := by
  intro hyp
  unfold b_M_dig_118 at hyp
  refine rt_st (pc1 := 38) (fun _ _ B => go_istore_n (lv1 := [(3, .int s0), (0, va_rf v0), (1, .int v1), (2, .int v2), (4, .int v4)]) d_M_dig_118 (by decide) rfl (go_iinc (v := (v4 + (1 : Int32))) (lv1 := [(4, .int (v4 + (1 : Int32))), (3, .int s0), (0, va_rf v0), (1, .int v1), (2, .int v2)]) 4 d_M_dig_119 rfl rfl (by decide) rfl (go_goto 38 d_M_dig_122 rfl B))) ?_
  refine rt_sub [2, 3, 4, 1, 0] (lv1 := [(0, va_rf v0), (1, .int v1), (2, .int v2), (3, .int s0), (4, .int (v4 + (1 : Int32)))]) rfl ?_
  exact hk38 _ _ _ _ _ _ _ hyp
set_option maxHeartbeats 4000000 in
set_option maxRecDepth 200000 in
theorem p_M_dig_117 (F : Nat) {h0 : MH} (k38 : (Option Nat) → Int32 → Int32 → Int32 → Int32 → MH → (Option (Int32 × MH))) (hk38 : ∀ (v0 : Option Nat) (v1 : Int32) (v2 : Int32) (v3 : Int32) (v4 : Int32) (h : MH) (r : (Int32 × MH)), k38 v0 v1 v2 v3 v4 h = some r → Rt mi_M_dig 9 h0 38 [(0, va_rf v0), (1, .int v1), (2, .int v2), (3, .int v3), (4, .int v4)] [] h (some (.int r.1)) r.2) (v0 : Option Nat) (v1 : Int32) (v2 : Int32) (v3 : Int32) (v4 : Int32) (h : MH) (r : (Int32 × MH)) : b_M_dig_117 F k38  v0 v1 v2 v3 v4 h = some r → Rt mi_M_dig 9 h0 117 [(0, va_rf v0), (1, .int v1), (2, .int v2), (3, .int v3), (4, .int v4)] [] h (some (.int r.1)) r.2 := by
  intro hyp
  unfold b_M_dig_117 at hyp
  refine rt_st (pc1 := 118) (fun _ _ B => go_iload_n 3 d_M_dig_117 rfl B) ?_
  refine rt_sub [0, 1, 2, 4] (lv1 := [(0, va_rf v0), (1, .int v1), (2, .int v2), (4, .int v4)]) rfl ?_
  exact p_M_dig_118 F k38 hk38 _ _ _ _ _ _ r hyp
set_option maxHeartbeats 4000000 in
set_option maxRecDepth 200000 in
theorem p_M_dig_98 (F : Nat) {h0 : MH} (k38 : (Option Nat) → Int32 → Int32 → Int32 → Int32 → MH → (Option (Int32 × MH))) (hk38 : ∀ (v0 : Option Nat) (v1 : Int32) (v2 : Int32) (v3 : Int32) (v4 : Int32) (h : MH) (r : (Int32 × MH)), k38 v0 v1 v2 v3 v4 h = some r → Rt mi_M_dig 9 h0 38 [(0, va_rf v0), (1, .int v1), (2, .int v2), (3, .int v3), (4, .int v4)] [] h (some (.int r.1)) r.2) (v0 : Option Nat) (v1 : Int32) (v3 : Int32) (v4 : Int32) (v5 : Int32) (s0 : Int32) (h : MH) (r : (Int32 × MH)) : b_M_dig_98 F k38  v0 v1 v3 v4 v5 s0 h = some r → Rt mi_M_dig 9 h0 98 [(0, va_rf v0), (1, .int v1), (3, .int v3), (4, .int v4), (5, .int v5)] [.int s0] h (some (.int r.1)) r.2 := by
  intro hyp
  unfold b_M_dig_98 at hyp
  refine rt_st (pc1 := 103) (fun _ _ B => go_istore_n (lv1 := [(2, .int s0), (0, va_rf v0), (1, .int v1), (3, .int v3), (4, .int v4), (5, .int v5)]) d_M_dig_98 (by decide) rfl (go_iload 5 d_M_dig_99 rfl (go_ldc (v := (-1000000 : Int32)) d_M_dig_101 w1239 B))) ?_
  by_cases c1 : v5 = (-1000000 : Int32)
  · replace hyp := (if_pos c1).symm.trans hyp
    refine rt_st (pc1 := 117) (fun _ _ B => go_icmp_eq_t 117 d_M_dig_103 rfl c1 B) ?_
    refine rt_sub [1, 2, 0, 3, 4] (lv1 := [(0, va_rf v0), (1, .int v1), (2, .int s0), (3, .int v3), (4, .int v4)]) rfl ?_
    exact p_M_dig_117 F k38 hk38 _ _ _ _ _ _ r hyp
  · replace hyp := (if_neg c1).symm.trans hyp
    refine rt_st (pc1 := 109) (fun _ _ B => go_icmp_eq_f d_M_dig_103 rfl c1 (go_iload 5 d_M_dig_106 rfl (go_iload_n 3 d_M_dig_108 rfl B))) ?_
    by_cases c2 : v3 ≤ v5
    · replace hyp := (if_pos c2).symm.trans hyp
      refine rt_st (pc1 := 117) (fun _ _ B => go_icmp_ge_t 117 d_M_dig_109 rfl c2 B) ?_
      refine rt_sub [1, 2, 0, 3, 4] (lv1 := [(0, va_rf v0), (1, .int v1), (2, .int s0), (3, .int v3), (4, .int v4)]) rfl ?_
      exact p_M_dig_117 F k38 hk38 _ _ _ _ _ _ r hyp
    · replace hyp := (if_neg c2).symm.trans hyp
      refine rt_st (pc1 := 118) (fun _ _ B => go_icmp_ge_f d_M_dig_109 rfl c2 (go_iload 5 d_M_dig_112 rfl (go_goto 118 d_M_dig_114 rfl B))) ?_
      refine rt_sub [1, 2, 0, 4] (lv1 := [(0, va_rf v0), (1, .int v1), (2, .int s0), (4, .int v4)]) rfl ?_
      exact p_M_dig_118 F k38 hk38 _ _ _ _ _ _ r hyp
set_option maxHeartbeats 4000000 in
set_option maxRecDepth 200000 in
theorem p_M_dig_97 (F : Nat) {h0 : MH} (k38 : (Option Nat) → Int32 → Int32 → Int32 → Int32 → MH → (Option (Int32 × MH))) (hk38 : ∀ (v0 : Option Nat) (v1 : Int32) (v2 : Int32) (v3 : Int32) (v4 : Int32) (h : MH) (r : (Int32 × MH)), k38 v0 v1 v2 v3 v4 h = some r → Rt mi_M_dig 9 h0 38 [(0, va_rf v0), (1, .int v1), (2, .int v2), (3, .int v3), (4, .int v4)] [] h (some (.int r.1)) r.2) (v0 : Option Nat) (v1 : Int32) (v2 : Int32) (v3 : Int32) (v4 : Int32) (v5 : Int32) (h : MH) (r : (Int32 × MH)) : b_M_dig_97 F k38  v0 v1 v2 v3 v4 v5 h = some r → Rt mi_M_dig 9 h0 97 [(0, va_rf v0), (1, .int v1), (2, .int v2), (3, .int v3), (4, .int v4), (5, .int v5)] [] h (some (.int r.1)) r.2 := by
  intro hyp
  unfold b_M_dig_97 at hyp
  refine rt_st (pc1 := 98) (fun _ _ B => go_iload_n 2 d_M_dig_97 rfl B) ?_
  refine rt_sub [0, 1, 3, 4, 5] (lv1 := [(0, va_rf v0), (1, .int v1), (3, .int v3), (4, .int v4), (5, .int v5)]) rfl ?_
  exact p_M_dig_98 F k38 hk38 _ _ _ _ _ _ _ r hyp
set_option maxHeartbeats 4000000 in
set_option maxRecDepth 200000 in
theorem p_M_dig_38 (F : Nat) {h0 : MH} : ∀ (n : Nat) (v0 : Option Nat) (v1 : Int32) (v2 : Int32) (v3 : Int32) (v4 : Int32) (h : MH) (r : (Int32 × MH)), b_M_dig_38 F  n v0 v1 v2 v3 v4 h = some r → Rt mi_M_dig 9 h0 38 [(0, va_rf v0), (1, .int v1), (2, .int v2), (3, .int v3), (4, .int v4)] [] h (some (.int r.1)) r.2 := by
  intro n
  induction n with
  | zero =>
    intro v0 v1 v2 v3 v4 h r hyp
    cases hyp
  | succ n ih =>
    intro v0 v1 v2 v3 v4 h r hyp
    unfold b_M_dig_38 at hyp
    refine rt_st (pc1 := 42) (fun _ _ B => go_iload 4 d_M_dig_38 rfl (go_bipush (v := (24 : Int32)) d_M_dig_40 (by decide) B)) ?_
    by_cases c1 : (24 : Int32) ≤ v4
    · replace hyp := (if_pos c1).symm.trans hyp
      refine rt_st (pc1 := 128) (fun _ _ B => go_icmp_ge_t 125 d_M_dig_42 rfl c1 (go_iload_n 2 d_M_dig_125 rfl (go_ldc (v := (-1000000 : Int32)) d_M_dig_126 w1239 B))) ?_
      by_cases c2 : v2 = (-1000000 : Int32)
      · replace hyp := (if_pos c2).symm.trans hyp
        refine rt_st (pc1 := 140) (fun _ _ B => go_icmp_eq_t 135 d_M_dig_128 rfl c2 (go_iload_n 2 d_M_dig_135 rfl (go_goto 140 d_M_dig_136 rfl B))) ?_
        exact rt_eqW Value.int hyp (rt_int d_M_dig_140 rfl)
      · replace hyp := (if_neg c2).symm.trans hyp
        refine rt_st (pc1 := 132) (fun _ _ B => go_icmp_eq_f d_M_dig_128 rfl c2 (go_iload_n 1 d_M_dig_131 rfl B)) ?_
        by_cases c3 : v1 = 0
        · replace hyp := (if_pos c3).symm.trans hyp
          refine rt_st (pc1 := 140) (fun _ _ B => go_if_ne_f d_M_dig_132 rfl c3 (go_iload_n 2 d_M_dig_135 rfl (go_goto 140 d_M_dig_136 rfl B))) ?_
          exact rt_eqW Value.int hyp (rt_int d_M_dig_140 rfl)
        · replace hyp := (if_neg c3).symm.trans hyp
          refine rt_st (pc1 := 140) (fun _ _ B => go_if_ne_t 139 d_M_dig_132 rfl c3 (go_iload_n 3 d_M_dig_139 rfl B)) ?_
          exact rt_eqW Value.int hyp (rt_int d_M_dig_140 rfl)
    · replace hyp := (if_neg c1).symm.trans hyp
      obtain ⟨x4, e5, hyp⟩ := Option.bind_eq_some_iff.mp hyp
      obtain ⟨x6, e7, hyp⟩ := Option.bind_eq_some_iff.mp hyp
      obtain ⟨h8, e9, hyp⟩ := Option.bind_eq_some_iff.mp hyp
      obtain ⟨x10, e11, hyp⟩ := Option.bind_eq_some_iff.mp hyp
      obtain ⟨h12, e13, hyp⟩ := Option.bind_eq_some_iff.mp hyp
      obtain ⟨x14, e15, hyp⟩ := Option.bind_eq_some_iff.mp hyp
      obtain ⟨x16, e17, hyp⟩ := Option.bind_eq_some_iff.mp hyp
      refine rt_st (pc1 := 83) (fun _ _ B => go_icmp_ge_f d_M_dig_42 rfl c1 (go_aload_n 0 d_M_dig_45 rfl (go_gfr d_M_dig_46 fd_11_15 w1004 e5 (go_aload_n 0 d_M_dig_49 rfl (go_gfr d_M_dig_50 fd_11_16 w1005 e7 (go_callS0 (st := []) [va_rf x4, va_rf x6] (t_M_copies F x4 x6 h _ e9) mm_M_copies (by decide) d_M_dig_53 w1153 w1154 rfl (Nat.le_of_ble_eq_true rfl) rfl (go_aload_n 0 d_M_dig_56 rfl (go_gfr d_M_dig_57 fd_11_16 w1005 e11 (go_bipush (v := (18 : Int32)) d_M_dig_60 (by decide) (go_iload 4 d_M_dig_62 rfl (go_iadd d_M_dig_64 (go_bipush (v := (9 : Int32)) d_M_dig_65 (by decide) (go_iast d_M_dig_67 e13 (go_aload_n 0 d_M_dig_68 rfl (go_aload_n 0 d_M_dig_69 rfl (go_gfr d_M_dig_70 fd_11_16 w1005 e15 (go_iconst (v := (0 : Int32)) d_M_dig_73 (by decide) (go_callV1 (q := q_11) (st := []) [va_rf x14, .int (0 : Int32)] (t_M_turnedOf F v0 x14 (0 : Int32) h12 _ (onc_spec e17).2) mm_M_turnedOf (by decide) d_M_dig_74 (onc_spec e17).1 rfl rfl w1266 w1268 w46 rfl (Nat.le_of_ble_eq_true rfl) rfl (go_istore (lv1 := [(5, .int x16.1), (0, va_rf v0), (1, .int v1), (2, .int v2), (3, .int v3), (4, .int v4)]) d_M_dig_77 (by decide) rfl (go_iload 0 d_M_dig_79 rfl (go_ldc (v := (-1000000 : Int32)) d_M_dig_81 w1239 B))))))))))))))))))))) ?_
      by_cases c18 : x16.1 = (-1000000 : Int32)
      · replace hyp := (if_pos c18).symm.trans hyp
        refine rt_st (pc1 := 97) (fun _ _ B => go_icmp_eq_t 97 d_M_dig_83 rfl c18 B) ?_
        refine rt_sub [1, 2, 3, 4, 5, 0] (lv1 := [(0, va_rf v0), (1, .int v1), (2, .int v2), (3, .int v3), (4, .int v4), (5, .int x16.1)]) rfl ?_
        exact p_M_dig_97 F (b_M_dig_38 F n) (fun a0 a1 a2 a3 a4 a5 r hyp => ih a0 a1 a2 a3 a4 a5 r hyp) _ _ _ _ _ _ _ r hyp
      · replace hyp := (if_neg c18).symm.trans hyp
        refine rt_st (pc1 := 89) (fun _ _ B => go_icmp_eq_f d_M_dig_83 rfl c18 (go_iload 0 d_M_dig_86 rfl (go_iload_n 4 d_M_dig_88 rfl B))) ?_
        by_cases c19 : v3 ≤ x16.1
        · replace hyp := (if_pos c19).symm.trans hyp
          refine rt_st (pc1 := 97) (fun _ _ B => go_icmp_ge_t 97 d_M_dig_89 rfl c19 B) ?_
          refine rt_sub [1, 2, 3, 4, 5, 0] (lv1 := [(0, va_rf v0), (1, .int v1), (2, .int v2), (3, .int v3), (4, .int v4), (5, .int x16.1)]) rfl ?_
          exact p_M_dig_97 F (b_M_dig_38 F n) (fun a0 a1 a2 a3 a4 a5 r hyp => ih a0 a1 a2 a3 a4 a5 r hyp) _ _ _ _ _ _ _ r hyp
        · replace hyp := (if_neg c19).symm.trans hyp
          refine rt_st (pc1 := 98) (fun _ _ B => go_icmp_ge_f d_M_dig_89 rfl c19 (go_iload 5 d_M_dig_92 rfl (go_goto 98 d_M_dig_94 rfl B))) ?_
          refine rt_sub [1, 2, 4, 5, 0] (lv1 := [(0, va_rf v0), (1, .int v1), (3, .int v3), (4, .int v4), (5, .int x16.1)]) rfl ?_
          exact p_M_dig_98 F (b_M_dig_38 F n) (fun a0 a1 a2 a3 a4 a5 r hyp => ih a0 a1 a2 a3 a4 a5 r hyp) _ _ _ _ _ _ _ r hyp
set_option maxHeartbeats 4000000 in
set_option maxRecDepth 200000 in
theorem t_M_dig (F : Nat) (v0 : Option Nat) (v1 : Int32) (h : MH) (r : (Int32 × MH)) (hyp : f_M_dig F v0 v1 h = some r) : Mt mi_M_dig 9 [va_rf v0, .int v1] h (some (.int r.1)) r.2 := by
  refine Mt.rt (lv := [(0, va_rf v0), (1, .int v1)]) (by decide +kernel) (by simp [lv_args, mj_rfc, mj_cti, mj_ctl]) (by simp [mj_rfc, mj_cti, mj_ctl]) ?_
  unfold f_M_dig at hyp
  obtain ⟨h1, e2, hyp⟩ := Option.bind_eq_some_iff.mp hyp
  obtain ⟨x3, e4, hyp⟩ := Option.bind_eq_some_iff.mp hyp
  obtain ⟨x5, e6, hyp⟩ := Option.bind_eq_some_iff.mp hyp
  refine rt_st (pc1 := 11) (fun _ _ B => go_aload_n 0 d_M_dig_0 rfl (go_iconst (v := (0 : Int32)) d_M_dig_1 (by decide) (go_pfi d_M_dig_2 fd_11_0 w989 (fun q => by cases q) e2 (go_aload_n 0 d_M_dig_5 rfl (go_gfr d_M_dig_6 fd_11_15 w1004 e4 (go_iconst (v := (0 : Int32)) d_M_dig_9 (by decide) (go_iald d_M_dig_10 e6 B))))))) ?_
  by_cases c7 : x5 = 0
  · replace hyp := (if_pos c7).symm.trans hyp
    refine rt_st (pc1 := 16) (fun _ _ B => go_if_ne_f d_M_dig_11 rfl c7 (go_ldc (v := (-1000002 : Int32)) d_M_dig_14 w1164 B)) ?_
    exact rt_eqW Value.int hyp (rt_int d_M_dig_16 rfl)
  · replace hyp := (if_neg c7).symm.trans hyp
    refine rt_st (pc1 := 23) (fun _ _ B => go_if_ne_t 17 d_M_dig_11 rfl c7 (go_iload_n 1 d_M_dig_17 rfl (go_iconst (v := (0 : Int32)) d_M_dig_18 (by decide) (go_iconst (v := (1 : Int32)) d_M_dig_19 (by decide) (go_callS1 (st := []) [.int v1, .int (0 : Int32), .int (1 : Int32)] (t_M_in v1 (0 : Int32) (1 : Int32) h1) mm_M_in (by decide) d_M_dig_20 w1073 w1074 rfl (Nat.le_of_ble_eq_true rfl) rfl B))))) ?_
    by_cases c8 : (f_M_in v1 (0 : Int32) (1 : Int32)) = 0
    · replace hyp := (if_pos c8).symm.trans hyp
      refine rt_st (pc1 := 28) (fun _ _ B => go_if_ne_f d_M_dig_23 rfl c8 (go_ldc (v := (-1000001 : Int32)) d_M_dig_26 w1076 B)) ?_
      exact rt_eqW Value.int hyp (rt_int d_M_dig_28 rfl)
    · replace hyp := (if_neg c8).symm.trans hyp
      refine rt_st (pc1 := 38) (fun _ _ B => go_if_ne_t 29 d_M_dig_23 rfl c8 (go_ldc (v := (-1000000 : Int32)) d_M_dig_29 w1239 (go_istore_n (lv1 := [(2, .int (-1000000 : Int32)), (0, va_rf v0), (1, .int v1)]) d_M_dig_31 (by decide) rfl (go_ldc (v := (100000000 : Int32)) d_M_dig_32 w1248 (go_istore_n (lv1 := [(3, .int (100000000 : Int32)), (2, .int (-1000000 : Int32)), (0, va_rf v0), (1, .int v1)]) d_M_dig_34 (by decide) rfl (go_iconst (v := (0 : Int32)) d_M_dig_35 (by decide) (go_istore (lv1 := [(4, .int (0 : Int32)), (3, .int (100000000 : Int32)), (2, .int (-1000000 : Int32)), (0, va_rf v0), (1, .int v1)]) d_M_dig_36 (by decide) rfl B))))))) ?_
      refine rt_sub [3, 4, 2, 1, 0] (lv1 := [(0, va_rf v0), (1, .int v1), (2, .int (-1000000 : Int32)), (3, .int (100000000 : Int32)), (4, .int (0 : Int32))]) rfl ?_
      exact p_M_dig_38 F F _ _ _ _ _ _ r hyp
/-! WideTurnModel.years()I -/
def b_M_years_30 (F : Nat) : Nat → (Option Nat) → (Int32) → (MH) → (Option (Int32 × MH))
  | 0 => fun _ _ _ => none
  | n + 1 => fun v0 v1 h => 
    if (11 : Int32) ≤ v1 then
      some ((-1000000 : Int32), h)
    else
      Option.bind (gfr h v0 [11] 16) fun x2 =>
      Option.bind (onc h v0 11 (f_M_turnedOf F v0 x2 (0 : Int32) h)) fun x4 =>
      if x4.1 = (-1000000 : Int32) then
        some (v1, x4.2)
      else
        Option.bind (gfr x4.2 v0 [11] 16) fun x7 =>
        Option.bind (f_M_silts F x7 x4.2) fun h9 =>
        (b_M_years_30 F n) v0 (v1 + (1 : Int32)) h9
def f_M_years (F : Nat) (v0 : Option Nat) (h : MH) : Option (Int32 × MH) :=
  Option.bind (pfv h v0 [11] 0 (.int (0 : Int32))) fun h1 =>
  Option.bind (gfr h1 v0 [11] 15) fun x3 =>
  Option.bind (ald h1 x3 0 (0 : Int32)) fun x5 =>
  if x5 = 0 then
    some ((-1000002 : Int32), h1)
  else
    Option.bind (gfr h1 v0 [11] 15) fun x8 =>
    Option.bind (gfr h1 v0 [11] 16) fun x10 =>
    Option.bind (f_M_copies F x8 x10 h1) fun h12 =>
    b_M_years_30 F F v0 (0 : Int32) h12
set_option maxHeartbeats 4000000 in
set_option maxRecDepth 200000 in
theorem p_M_years_30 (F : Nat) {h0 : MH} : ∀ (n : Nat) (v0 : Option Nat) (v1 : Int32) (h : MH) (r : (Int32 × MH)), b_M_years_30 F  n v0 v1 h = some r → Rt mi_M_years 9 h0 30 [(0, va_rf v0), (1, .int v1)] [] h (some (.int r.1)) r.2 := by
  intro n
  induction n with
  | zero =>
    intro v0 v1 h r hyp
    cases hyp
  | succ n ih =>
    intro v0 v1 h r hyp
    unfold b_M_years_30 at hyp
    refine rt_st (pc1 := 33) (fun _ _ B => go_iload_n 1 d_M_years_30 rfl (go_bipush (v := (11 : Int32)) d_M_years_31 (by decide) B)) ?_
    by_cases c1 : (11 : Int32) ≤ v1
    · replace hyp := (if_pos c1).symm.trans hyp
      refine rt_st (pc1 := 67) (fun _ _ B => go_icmp_ge_t 65 d_M_years_33 rfl c1 (go_ldc (v := (-1000000 : Int32)) d_M_years_65 w1239 B)) ?_
      exact rt_eqW Value.int hyp (rt_int d_M_years_67 rfl)
    · replace hyp := (if_neg c1).symm.trans hyp
      obtain ⟨x2, e3, hyp⟩ := Option.bind_eq_some_iff.mp hyp
      obtain ⟨x4, e5, hyp⟩ := Option.bind_eq_some_iff.mp hyp
      refine rt_st (pc1 := 47) (fun _ _ B => go_icmp_ge_f d_M_years_33 rfl c1 (go_aload_n 0 d_M_years_36 rfl (go_aload_n 0 d_M_years_37 rfl (go_gfr d_M_years_38 fd_11_16 w1005 e3 (go_iconst (v := (0 : Int32)) d_M_years_41 (by decide) (go_callV1 (q := q_11) (st := []) [va_rf x2, .int (0 : Int32)] (t_M_turnedOf F v0 x2 (0 : Int32) h _ (onc_spec e5).2) mm_M_turnedOf (by decide) d_M_years_42 (onc_spec e5).1 rfl rfl w1266 w1268 w46 rfl (Nat.le_of_ble_eq_true rfl) rfl (go_ldc (v := (-1000000 : Int32)) d_M_years_45 w1239 B))))))) ?_
      by_cases c6 : x4.1 = (-1000000 : Int32)
      · replace hyp := (if_pos c6).symm.trans hyp
        refine rt_st (pc1 := 51) (fun _ _ B => go_icmp_ne_f d_M_years_47 rfl c6 (go_iload_n 1 d_M_years_50 rfl B)) ?_
        exact rt_eqW Value.int hyp (rt_int d_M_years_51 rfl)
      · replace hyp := (if_neg c6).symm.trans hyp
        obtain ⟨x7, e8, hyp⟩ := Option.bind_eq_some_iff.mp hyp
        obtain ⟨h9, e10, hyp⟩ := Option.bind_eq_some_iff.mp hyp
        refine rt_st (pc1 := 30) (fun _ _ B => go_icmp_ne_t 52 d_M_years_47 rfl c6 (go_aload_n 0 d_M_years_52 rfl (go_gfr d_M_years_53 fd_11_16 w1005 e8 (go_callS0 (st := []) [va_rf x7] (t_M_silts F x7 x4.2 _ e10) mm_M_silts (by decide) d_M_years_56 w1220 w1221 rfl (Nat.le_of_ble_eq_true rfl) rfl (go_iinc (v := (v1 + (1 : Int32))) (lv1 := [(1, .int (v1 + (1 : Int32))), (0, va_rf v0)]) 1 d_M_years_59 rfl rfl (by decide) (by first | (simp [mj_s1, mj_s2, mj_rfc, mj_cti, mj_ctl]; done) | (simp [mj_s1, mj_s2, mj_rfc, mj_cti, mj_ctl]; decide)) (go_goto 30 d_M_years_62 rfl B)))))) ?_
        refine rt_sub [1, 0] (lv1 := [(0, va_rf v0), (1, .int (v1 + (1 : Int32)))]) rfl ?_
        exact ih _ _ _ _ hyp
set_option maxHeartbeats 4000000 in
set_option maxRecDepth 200000 in
theorem t_M_years (F : Nat) (v0 : Option Nat) (h : MH) (r : (Int32 × MH)) (hyp : f_M_years F v0 h = some r) : Mt mi_M_years 9 [va_rf v0] h (some (.int r.1)) r.2 := by
  refine Mt.rt (lv := [(0, va_rf v0)]) (by decide +kernel) (by simp [lv_args, mj_rfc, mj_cti, mj_ctl]) (by simp [mj_rfc, mj_cti, mj_ctl]) ?_
  unfold f_M_years at hyp
  obtain ⟨h1, e2, hyp⟩ := Option.bind_eq_some_iff.mp hyp
  obtain ⟨x3, e4, hyp⟩ := Option.bind_eq_some_iff.mp hyp
  obtain ⟨x5, e6, hyp⟩ := Option.bind_eq_some_iff.mp hyp
  refine rt_st (pc1 := 11) (fun _ _ B => go_aload_n 0 d_M_years_0 rfl (go_iconst (v := (0 : Int32)) d_M_years_1 (by decide) (go_pfi d_M_years_2 fd_11_0 w989 (fun q => by cases q) e2 (go_aload_n 0 d_M_years_5 rfl (go_gfr d_M_years_6 fd_11_15 w1004 e4 (go_iconst (v := (0 : Int32)) d_M_years_9 (by decide) (go_iald d_M_years_10 e6 B))))))) ?_
  by_cases c7 : x5 = 0
  · replace hyp := (if_pos c7).symm.trans hyp
    refine rt_st (pc1 := 16) (fun _ _ B => go_if_ne_f d_M_years_11 rfl c7 (go_ldc (v := (-1000002 : Int32)) d_M_years_14 w1164 B)) ?_
    exact rt_eqW Value.int hyp (rt_int d_M_years_16 rfl)
  · replace hyp := (if_neg c7).symm.trans hyp
    obtain ⟨x8, e9, hyp⟩ := Option.bind_eq_some_iff.mp hyp
    obtain ⟨x10, e11, hyp⟩ := Option.bind_eq_some_iff.mp hyp
    obtain ⟨h12, e13, hyp⟩ := Option.bind_eq_some_iff.mp hyp
    refine rt_st (pc1 := 30) (fun _ _ B => go_if_ne_t 17 d_M_years_11 rfl c7 (go_aload_n 0 d_M_years_17 rfl (go_gfr d_M_years_18 fd_11_15 w1004 e9 (go_aload_n 0 d_M_years_21 rfl (go_gfr d_M_years_22 fd_11_16 w1005 e11 (go_callS0 (st := []) [va_rf x8, va_rf x10] (t_M_copies F x8 x10 h1 _ e13) mm_M_copies (by decide) d_M_years_25 w1153 w1154 rfl (Nat.le_of_ble_eq_true rfl) rfl (go_iconst (v := (0 : Int32)) d_M_years_28 (by decide) (go_istore_n (lv1 := [(1, .int (0 : Int32)), (0, va_rf v0)]) d_M_years_29 (by decide) (by first | (simp [mj_s1, mj_s2, mj_rfc, mj_cti, mj_ctl]; done) | (simp [mj_s1, mj_s2, mj_rfc, mj_cti, mj_ctl]; decide)) B)))))))) ?_
    refine rt_sub [1, 0] (lv1 := [(0, va_rf v0), (1, .int (0 : Int32))]) rfl ?_
    exact p_M_years_30 F F _ _ _ r hyp
