/-! WideTurn.move(II)I -/
def f_C_move (v0 : Option Nat) (v1 : Int32) (v2 : Int32) (h : MH) : Option (Int32 × MH) :=
  Option.bind (gfr h v0 [10] 4) fun x1 =>
  Option.bind (onc h x1 1 (f_B_handAt x1 v1 h)) fun x3 =>
  if x3 = none then
    some ((-1000001 : Int32), h)
  else
    if (f_C_within v2 (8 : Int32)) = 0 then
      some ((-1000001 : Int32), h)
    else
      Option.bind (gfr h v0 [10] 4) fun x7 =>
      Option.bind (onc h x7 1 (f_B_canMake x7 x3 v2 h)) fun x9 =>
      if x9 = 0 then
        some ((-1000002 : Int32), h)
      else
        Option.bind (gfr h v0 [10] 4) fun x12 =>
        Option.bind (gfi h x12 [1] 6) fun x14 =>
        if x14 < (999 : Int32) then
          Option.bind (gfr h v0 [10] 2) fun x17 =>
          Option.bind (gfr h v0 [10] 4) fun x19 =>
          Option.bind (onc h x17 0 (f_A_keep x17 x19 (0 : Int32) h)) fun h21 =>
          Option.bind (gfr h21 v0 [10] 4) fun x23 =>
          Option.bind (onc h21 x23 1 (f_B_make x23 v2 h21)) fun h25 =>
          Option.bind (v_H_minutesFor x3 v2 h25) fun x27 =>
          some (x27, h25)
        else
          some ((-1000003 : Int32), h)
set_option maxHeartbeats 4000000 in
set_option maxRecDepth 200000 in
theorem vs_C_move_78 {h0 : MH} (h : MH) {o : Option Nat} {a0 : Int32} {pc2 : Nat} {lv lv2 : List (Nat × Value)} {st st2 : List Value} {h2 : MH} {x : Int32} (e : v_H_minutesFor o a0 h = some x) (hst : st.length ≤ 4) (B : Go mi_C_move 4 h0 (78 + 3) lv (.int x :: st) h pc2 lv2 st2 h2) : Go mi_C_move 4 h0 78 lv (.int a0 :: va_rf o :: st) h pc2 lv2 st2 h2 := by
  unfold v_H_minutesFor at e
  by_cases c2 : cls h o = some 2
  · replace e := (if_pos c2).symm.trans e
    exact go_callU1 (q := q_2) [.int a0] (t_H_minutesFor o a0 h _ e) mm_H_minutesFor (by decide) d_C_move_78 c2 rfl w647 w593 (Or.inr w601) (by decide +kernel) w594 w592 rfl hst rfl B
  replace e := (if_neg c2).symm.trans e
  by_cases c3 : cls h o = some 3
  · replace e := (if_pos c3).symm.trans e
    exact go_callU1 (q := q_3) [.int a0] (t_H_minutesFor o a0 h _ e) mm_H_minutesFor (by decide) d_C_move_78 c3 rfl w647 w593 (Or.inr w601) (by decide +kernel) w595 w592 rfl hst rfl B
  replace e := (if_neg c3).symm.trans e
  by_cases c4 : cls h o = some 4
  · replace e := (if_pos c4).symm.trans e
    exact go_callU1 (q := q_4) [.int a0] (t_Ro_minutesFor o a0 h _ e) mm_Ro_minutesFor (by decide) d_C_move_78 c4 rfl w647 w593 (Or.inr w601) (by decide +kernel) w596 w597 rfl hst rfl B
  replace e := (if_neg c4).symm.trans e
  by_cases c7 : cls h o = some 7
  · replace e := (if_pos c7).symm.trans e
    exact go_callU1 (q := q_7) [.int a0] (t_H_minutesFor o a0 h _ e) mm_H_minutesFor (by decide) d_C_move_78 c7 rfl w647 w593 (Or.inr w601) (by decide +kernel) w603 w592 rfl hst rfl B
  replace e := (if_neg c7).symm.trans e
  by_cases c8 : cls h o = some 8
  · replace e := (if_pos c8).symm.trans e
    exact go_callU1 (q := q_8) [.int a0] (t_H_minutesFor o a0 h _ e) mm_H_minutesFor (by decide) d_C_move_78 c8 rfl w647 w593 (Or.inr w601) (by decide +kernel) w604 w592 rfl hst rfl B
  replace e := (if_neg c8).symm.trans e
  cases e
set_option maxHeartbeats 4000000 in
set_option maxRecDepth 200000 in
theorem t_C_move (v0 : Option Nat) (v1 : Int32) (v2 : Int32) (h : MH) (r : (Int32 × MH)) (hyp : f_C_move v0 v1 v2 h = some r) : Mt mi_C_move 4 [va_rf v0, .int v1, .int v2] h (some (.int r.1)) r.2 := by
  refine Mt.rt (lv := [(0, va_rf v0), (1, .int v1), (2, .int v2)]) (by decide +kernel) (by simp [lv_args, mj_rfc, mj_cti, mj_ctl]) (by simp [mj_rfc, mj_cti, mj_ctl]) ?_
  unfold f_C_move at hyp
  obtain ⟨x1, e2, hyp⟩ := Option.bind_eq_some_iff.mp hyp
  obtain ⟨x3, e4, hyp⟩ := Option.bind_eq_some_iff.mp hyp
  refine rt_st (pc1 := 10) (fun _ _ B => go_aload_n 0 d_C_move_0 rfl (go_gfr d_C_move_1 fd_10_4 w279 e2 (go_iload_n 1 d_C_move_4 rfl (go_callV1 (q := q_1) (st := []) [.int v1] (t_B_handAt x1 v1 h _ (onc_spec e4).2) mm_B_handAt (by decide) d_C_move_5 (onc_spec e4).1 rfl rfl w567 w568 w569 rfl (Nat.le_of_ble_eq_true rfl) rfl (go_astore_n (lv1 := [(3, va_rf x3), (0, va_rf v0), (1, .int v1), (2, .int v2)]) d_C_move_8 (by decide) rfl (go_aload_n 0 d_C_move_9 rfl B)))))) ?_
  by_cases c5 : x3 = none
  · replace hyp := (if_pos c5).symm.trans hyp
    refine rt_st (pc1 := 24) (fun _ _ B => go_ifnull_t 22 d_C_move_10 rfl c5 (go_ldc (v := (-1000001 : Int32)) d_C_move_22 w316 B)) ?_
    exact rt_eqW Value.int hyp (rt_int d_C_move_24 rfl)
  · replace hyp := (if_neg c5).symm.trans hyp
    refine rt_st (pc1 := 19) (fun _ _ B => go_ifnull_f d_C_move_10 rfl c5 (go_iload_n 3 d_C_move_13 rfl (go_bipush (v := (8 : Int32)) d_C_move_14 (by decide) (go_callS1 (st := []) [.int v2, .int (8 : Int32)] (t_C_within v2 (8 : Int32) h) mm_C_within (by decide) d_C_move_16 w313 w314 rfl (Nat.le_of_ble_eq_true rfl) rfl B)))) ?_
    by_cases c6 : (f_C_within v2 (8 : Int32)) = 0
    · replace hyp := (if_pos c6).symm.trans hyp
      refine rt_st (pc1 := 24) (fun _ _ B => go_if_ne_f d_C_move_19 rfl c6 (go_ldc (v := (-1000001 : Int32)) d_C_move_22 w316 B)) ?_
      exact rt_eqW Value.int hyp (rt_int d_C_move_24 rfl)
    · replace hyp := (if_neg c6).symm.trans hyp
      obtain ⟨x7, e8, hyp⟩ := Option.bind_eq_some_iff.mp hyp
      obtain ⟨x9, e10, hyp⟩ := Option.bind_eq_some_iff.mp hyp
      refine rt_st (pc1 := 34) (fun _ _ B => go_if_ne_t 25 d_C_move_19 rfl c6 (go_aload_n 1 d_C_move_25 rfl (go_gfr d_C_move_26 fd_10_4 w279 e8 (go_aload_n 0 d_C_move_29 rfl (go_iload_n 3 d_C_move_30 rfl (go_callV1 (q := q_1) (st := []) [va_rf x3, .int v2] (t_B_canMake x7 x3 v2 h _ (onc_spec e10).2) mm_B_canMake (by decide) d_C_move_31 (onc_spec e10).1 rfl rfl w571 w572 w573 rfl (Nat.le_of_ble_eq_true rfl) rfl B)))))) ?_
      by_cases c11 : x9 = 0
      · replace hyp := (if_pos c11).symm.trans hyp
        refine rt_st (pc1 := 39) (fun _ _ B => go_if_ne_f d_C_move_34 rfl c11 (go_ldc (v := (-1000002 : Int32)) d_C_move_37 w552 B)) ?_
        exact rt_eqW Value.int hyp (rt_int d_C_move_39 rfl)
      · replace hyp := (if_neg c11).symm.trans hyp
        obtain ⟨x12, e13, hyp⟩ := Option.bind_eq_some_iff.mp hyp
        obtain ⟨x14, e15, hyp⟩ := Option.bind_eq_some_iff.mp hyp
        refine rt_st (pc1 := 50) (fun _ _ B => go_if_ne_t 40 d_C_move_34 rfl c11 (go_aload_n 1 d_C_move_40 rfl (go_gfr d_C_move_41 fd_10_4 w279 e13 (go_gfi d_C_move_44 fd_1_6 w238 e15 (go_sipush (v := (999 : Int32)) d_C_move_47 (by decide) B))))) ?_
        by_cases c16 : x14 < (999 : Int32)
        · replace hyp := (if_pos c16).symm.trans hyp
          obtain ⟨x17, e18, hyp⟩ := Option.bind_eq_some_iff.mp hyp
          obtain ⟨x19, e20, hyp⟩ := Option.bind_eq_some_iff.mp hyp
          obtain ⟨h21, e22, hyp⟩ := Option.bind_eq_some_iff.mp hyp
          obtain ⟨x23, e24, hyp⟩ := Option.bind_eq_some_iff.mp hyp
          obtain ⟨h25, e26, hyp⟩ := Option.bind_eq_some_iff.mp hyp
          obtain ⟨x27, e28, hyp⟩ := Option.bind_eq_some_iff.mp hyp
          refine rt_st (pc1 := 81) (fun _ _ B => go_icmp_lt_t 56 d_C_move_50 rfl c16 (go_aload_n 1 d_C_move_56 rfl (go_gfr d_C_move_57 fd_10_2 w277 e18 (go_aload_n 1 d_C_move_60 rfl (go_gfr d_C_move_61 fd_10_4 w279 e20 (go_iconst (v := (0 : Int32)) d_C_move_64 (by decide) (go_callV0 (q := q_0) (st := []) [va_rf x19, .int (0 : Int32)] (t_A_keep x17 x19 (0 : Int32) h _ (onc_spec e22).2) mm_A_keep (by decide) d_C_move_65 (onc_spec e22).1 rfl rfl w634 w635 w636 rfl (Nat.le_of_ble_eq_true rfl) rfl (go_aload_n 1 d_C_move_68 rfl (go_gfr d_C_move_69 fd_10_4 w279 e24 (go_iload_n 3 d_C_move_72 rfl (go_callV0 (q := q_1) (st := []) [.int v2] (t_B_make x23 v2 h21 _ (onc_spec e26).2) mm_B_make (by decide) d_C_move_73 (onc_spec e26).1 rfl rfl w639 w640 w641 rfl (Nat.le_of_ble_eq_true rfl) rfl (go_aload_n 0 d_C_move_76 rfl (go_iload_n 3 d_C_move_77 rfl (vs_C_move_78 h25 (st := []) e28 (Nat.le_of_ble_eq_true rfl) B)))))))))))))) ?_
          exact rt_eqW Value.int hyp (rt_int d_C_move_81 rfl)
        · replace hyp := (if_neg c16).symm.trans hyp
          refine rt_st (pc1 := 55) (fun _ _ B => go_icmp_lt_f d_C_move_50 rfl c16 (go_ldc (v := (-1000003 : Int32)) d_C_move_53 w391 B)) ?_
          exact rt_eqW Value.int hyp (rt_int d_C_move_55 rfl)
/-! WideTurn.laden(I)I -/
def f_C_laden (v0 : Option Nat) (v1 : Int32) (h : MH) : Option (Int32 × MH) :=
  Option.bind (gfi h v0 [10] 8) fun x1 =>
  if x1 = 0 then
    some ((-1000002 : Int32), h)
  else
    if (f_C_within v1 (2 : Int32)) = 0 then
      some ((-1000001 : Int32), h)
    else
      Option.bind (gfr h v0 [10] 4) fun x5 =>
      Option.bind (gfi h x5 [1] 5) fun x7 =>
      if x7 = v1 then
        some ((-1000002 : Int32), h)
      else
        Option.bind (gfr h v0 [10] 2) fun x10 =>
        Option.bind (gfr h v0 [10] 4) fun x12 =>
        Option.bind (onc h x10 0 (f_A_keep x10 x12 (0 : Int32) h)) fun h14 =>
        Option.bind (gfr h14 v0 [10] 4) fun x16 =>
        Option.bind (pfv h14 x16 [1] 5 (.int v1)) fun h18 =>
        Option.bind (gfr h18 v0 [10] 4) fun x20 =>
        Option.bind (onc h18 x20 1 (f_B_sinks x20 h18)) fun x22 =>
        some (x22, h18)
set_option maxHeartbeats 4000000 in
set_option maxRecDepth 200000 in
theorem t_C_laden (v0 : Option Nat) (v1 : Int32) (h : MH) (r : (Int32 × MH)) (hyp : f_C_laden v0 v1 h = some r) : Mt mi_C_laden 3 [va_rf v0, .int v1] h (some (.int r.1)) r.2 := by
  refine Mt.rt (lv := [(0, va_rf v0), (1, .int v1)]) (by decide +kernel) (by simp [lv_args, mj_rfc, mj_cti, mj_ctl]) (by simp [mj_rfc, mj_cti, mj_ctl]) ?_
  unfold f_C_laden at hyp
  obtain ⟨x1, e2, hyp⟩ := Option.bind_eq_some_iff.mp hyp
  refine rt_st (pc1 := 4) (fun _ _ B => go_aload_n 0 d_C_laden_0 rfl (go_gfi d_C_laden_1 fd_10_8 w283 e2 B)) ?_
  by_cases c3 : x1 = 0
  · replace hyp := (if_pos c3).symm.trans hyp
    refine rt_st (pc1 := 9) (fun _ _ B => go_if_ne_f d_C_laden_4 rfl c3 (go_ldc (v := (-1000002 : Int32)) d_C_laden_7 w552 B)) ?_
    exact rt_eqW Value.int hyp (rt_int d_C_laden_9 rfl)
  · replace hyp := (if_neg c3).symm.trans hyp
    refine rt_st (pc1 := 15) (fun _ _ B => go_if_ne_t 10 d_C_laden_4 rfl c3 (go_iload_n 1 d_C_laden_10 rfl (go_iconst (v := (2 : Int32)) d_C_laden_11 (by decide) (go_callS1 (st := []) [.int v1, .int (2 : Int32)] (t_C_within v1 (2 : Int32) h) mm_C_within (by decide) d_C_laden_12 w313 w314 rfl (Nat.le_of_ble_eq_true rfl) rfl B)))) ?_
    by_cases c4 : (f_C_within v1 (2 : Int32)) = 0
    · replace hyp := (if_pos c4).symm.trans hyp
      refine rt_st (pc1 := 20) (fun _ _ B => go_if_ne_f d_C_laden_15 rfl c4 (go_ldc (v := (-1000001 : Int32)) d_C_laden_18 w316 B)) ?_
      exact rt_eqW Value.int hyp (rt_int d_C_laden_20 rfl)
    · replace hyp := (if_neg c4).symm.trans hyp
      obtain ⟨x5, e6, hyp⟩ := Option.bind_eq_some_iff.mp hyp
      obtain ⟨x7, e8, hyp⟩ := Option.bind_eq_some_iff.mp hyp
      refine rt_st (pc1 := 29) (fun _ _ B => go_if_ne_t 21 d_C_laden_15 rfl c4 (go_aload_n 0 d_C_laden_21 rfl (go_gfr d_C_laden_22 fd_10_4 w279 e6 (go_gfi d_C_laden_25 fd_1_5 w234 e8 (go_iload_n 1 d_C_laden_28 rfl B))))) ?_
      by_cases c9 : x7 = v1
      · replace hyp := (if_pos c9).symm.trans hyp
        refine rt_st (pc1 := 34) (fun _ _ B => go_icmp_ne_f d_C_laden_29 rfl c9 (go_ldc (v := (-1000002 : Int32)) d_C_laden_32 w552 B)) ?_
        exact rt_eqW Value.int hyp (rt_int d_C_laden_34 rfl)
      · replace hyp := (if_neg c9).symm.trans hyp
        obtain ⟨x10, e11, hyp⟩ := Option.bind_eq_some_iff.mp hyp
        obtain ⟨x12, e13, hyp⟩ := Option.bind_eq_some_iff.mp hyp
        obtain ⟨h14, e15, hyp⟩ := Option.bind_eq_some_iff.mp hyp
        obtain ⟨x16, e17, hyp⟩ := Option.bind_eq_some_iff.mp hyp
        obtain ⟨h18, e19, hyp⟩ := Option.bind_eq_some_iff.mp hyp
        obtain ⟨x20, e21, hyp⟩ := Option.bind_eq_some_iff.mp hyp
        obtain ⟨x22, e23, hyp⟩ := Option.bind_eq_some_iff.mp hyp
        refine rt_st (pc1 := 62) (fun _ _ B => go_icmp_ne_t 35 d_C_laden_29 rfl c9 (go_aload_n 0 d_C_laden_35 rfl (go_gfr d_C_laden_36 fd_10_2 w277 e11 (go_aload_n 0 d_C_laden_39 rfl (go_gfr d_C_laden_40 fd_10_4 w279 e13 (go_iconst (v := (0 : Int32)) d_C_laden_43 (by decide) (go_callV0 (q := q_0) (st := []) [va_rf x12, .int (0 : Int32)] (t_A_keep x10 x12 (0 : Int32) h _ (onc_spec e15).2) mm_A_keep (by decide) d_C_laden_44 (onc_spec e15).1 rfl rfl w634 w635 w636 rfl (Nat.le_of_ble_eq_true rfl) rfl (go_aload_n 0 d_C_laden_47 rfl (go_gfr d_C_laden_48 fd_10_4 w279 e17 (go_iload_n 1 d_C_laden_51 rfl (go_pfi d_C_laden_52 fd_1_5 w234 (fun q => by cases q) e19 (go_aload_n 0 d_C_laden_55 rfl (go_gfr d_C_laden_56 fd_10_4 w279 e21 (go_callV1 (q := q_1) (st := []) [] (t_B_sinks x20 h18 _ (onc_spec e23).2) mm_B_sinks (by decide) d_C_laden_59 (onc_spec e23).1 rfl rfl w652 w576 w577 rfl (Nat.le_of_ble_eq_true rfl) rfl B)))))))))))))) ?_
        exact rt_eqW Value.int hyp (rt_int d_C_laden_62 rfl)
/-! WideTurn.moor(II)I -/
def b_C_moor_90 : (Option Nat) → (Int32) → (MH) → (Option (Int32 × MH)) := fun v0 v1 h => 
  Option.bind (gfr h v0 [10] 2) fun x1 =>
  Option.bind (gfr h v0 [10] 4) fun x3 =>
  Option.bind (onc h x1 0 (f_A_keep x1 x3 (0 : Int32) h)) fun h5 =>
  Option.bind (gfr h5 v0 [10] 4) fun x7 =>
  Option.bind (gfi h5 x7 [1] 7) fun x9 =>
  Option.bind (pfv h5 x7 [1] 7 (.int (x9 ^^^ ((1 : Int32) <<< (v1 &&& 31))))) fun h11 =>
  Option.bind (gfr h11 v0 [10] 4) fun x13 =>
  Option.bind (gfi h11 x13 [1] 7) fun x15 =>
  some ((f_J_bitCount x15), h11)
def b_C_moor_68 : (Option Nat) → (Int32) → (Int32) → (MH) → (Option (Int32 × MH)) := fun v0 v1 v2 h => 
  if v2 = (1 : Int32) then
    Option.bind (gfr h v0 [10] 4) fun x2 =>
    Option.bind (gfi h x2 [1] 7) fun x4 =>
    if (f_J_bitCount x4) < (4 : Int32) then
      b_C_moor_90 v0 v1 h
    else
      some ((-1000003 : Int32), h)
  else
    b_C_moor_90 v0 v1 h
def f_C_moor (v0 : Option Nat) (v1 : Int32) (v2 : Int32) (h : MH) : Option (Int32 × MH) :=
  Option.bind (gfi h v0 [10] 8) fun x1 =>
  if x1 = 0 then
    some ((-1000002 : Int32), h)
  else
    if (f_C_within v1 (24 : Int32)) = 0 then
      some ((-1000001 : Int32), h)
    else
      if (f_C_within v2 (2 : Int32)) = 0 then
        some ((-1000001 : Int32), h)
      else
        Option.bind (gfr h v0 [10] 4) fun x6 =>
        Option.bind (gfi h x6 [1] 7) fun x8 =>
        if (f_C_bit x8 v1) = v2 then
          some ((-1000002 : Int32), h)
        else
          if v2 = (1 : Int32) then
            Option.bind (gfr h v0 [10] 4) fun x12 =>
            Option.bind (onc h x12 1 (f_B_lies x12 h)) fun x14 =>
            if (f_C_bit x14 v1) = (1 : Int32) then
              some ((-1000002 : Int32), h)
            else
              b_C_moor_68 v0 v1 v2 h
          else
            b_C_moor_68 v0 v1 v2 h
set_option maxHeartbeats 4000000 in
set_option maxRecDepth 200000 in
theorem p_C_moor_90 {h0 : MH} (v0 : Option Nat) (v1 : Int32) (h : MH) (r : (Int32 × MH)) : b_C_moor_90  v0 v1 h = some r → Rt mi_C_moor 4 h0 90 [(0, va_rf v0), (1, .int v1)] [] h (some (.int r.1)) r.2 := by
  intro hyp
  unfold b_C_moor_90 at hyp
  obtain ⟨x1, e2, hyp⟩ := Option.bind_eq_some_iff.mp hyp
  obtain ⟨x3, e4, hyp⟩ := Option.bind_eq_some_iff.mp hyp
  obtain ⟨h5, e6, hyp⟩ := Option.bind_eq_some_iff.mp hyp
  obtain ⟨x7, e8, hyp⟩ := Option.bind_eq_some_iff.mp hyp
  obtain ⟨x9, e10, hyp⟩ := Option.bind_eq_some_iff.mp hyp
  obtain ⟨h11, e12, hyp⟩ := Option.bind_eq_some_iff.mp hyp
  obtain ⟨x13, e14, hyp⟩ := Option.bind_eq_some_iff.mp hyp
  obtain ⟨x15, e16, hyp⟩ := Option.bind_eq_some_iff.mp hyp
  refine rt_st (pc1 := 127) (fun _ _ B => go_aload_n 0 d_C_moor_90 rfl (go_gfr d_C_moor_91 fd_10_2 w277 e2 (go_aload_n 0 d_C_moor_94 rfl (go_gfr d_C_moor_95 fd_10_4 w279 e4 (go_iconst (v := (0 : Int32)) d_C_moor_98 (by decide) (go_callV0 (q := q_0) (st := []) [va_rf x3, .int (0 : Int32)] (t_A_keep x1 x3 (0 : Int32) h _ (onc_spec e6).2) mm_A_keep (by decide) d_C_moor_99 (onc_spec e6).1 rfl rfl w634 w635 w636 rfl (Nat.le_of_ble_eq_true rfl) rfl (go_aload_n 0 d_C_moor_102 rfl (go_gfr d_C_moor_103 fd_10_4 w279 e8 (go_dup d_C_moor_106 (mj_rfc _) (go_gfi d_C_moor_107 fd_1_7 w242 e10 (go_iconst (v := (1 : Int32)) d_C_moor_110 (by decide) (go_iload_n 1 d_C_moor_111 rfl (go_ishl d_C_moor_112 (go_ixor d_C_moor_113 (go_pfi d_C_moor_114 fd_1_7 w242 (fun q => by cases q) e12 (go_aload_n 0 d_C_moor_117 rfl (go_gfr d_C_moor_118 fd_10_4 w279 e14 (go_gfi d_C_moor_121 fd_1_7 w242 e16 (go_callS1 (st := []) [.int x15] (t_J_bitCount x15 h11) mm_J_bitCount (by decide) d_C_moor_124 w665 w666 rfl (Nat.le_of_ble_eq_true rfl) rfl B))))))))))))))))))) ?_
  exact rt_eqW Value.int hyp (rt_int d_C_moor_127 rfl)
set_option maxHeartbeats 4000000 in
set_option maxRecDepth 200000 in
theorem p_C_moor_68 {h0 : MH} (v0 : Option Nat) (v1 : Int32) (v2 : Int32) (h : MH) (r : (Int32 × MH)) : b_C_moor_68  v0 v1 v2 h = some r → Rt mi_C_moor 4 h0 68 [(0, va_rf v0), (1, .int v1), (2, .int v2)] [] h (some (.int r.1)) r.2 := by
  intro hyp
  unfold b_C_moor_68 at hyp
  refine rt_st (pc1 := 70) (fun _ _ B => go_iload_n 2 d_C_moor_68 rfl (go_iconst (v := (1 : Int32)) d_C_moor_69 (by decide) B)) ?_
  by_cases c1 : v2 = (1 : Int32)
  · replace hyp := (if_pos c1).symm.trans hyp
    obtain ⟨x2, e3, hyp⟩ := Option.bind_eq_some_iff.mp hyp
    obtain ⟨x4, e5, hyp⟩ := Option.bind_eq_some_iff.mp hyp
    refine rt_st (pc1 := 84) (fun _ _ B => go_icmp_ne_f d_C_moor_70 rfl c1 (go_aload_n 0 d_C_moor_73 rfl (go_gfr d_C_moor_74 fd_10_4 w279 e3 (go_gfi d_C_moor_77 fd_1_7 w242 e5 (go_callS1 (st := []) [.int x4] (t_J_bitCount x4 h) mm_J_bitCount (by decide) d_C_moor_80 w665 w666 rfl (Nat.le_of_ble_eq_true rfl) rfl (go_iconst (v := (4 : Int32)) d_C_moor_83 (by decide) B)))))) ?_
    by_cases c6 : (f_J_bitCount x4) < (4 : Int32)
    · replace hyp := (if_pos c6).symm.trans hyp
      refine rt_st (pc1 := 90) (fun _ _ B => go_icmp_lt_t 90 d_C_moor_84 rfl c6 B) ?_
      refine rt_sub [0, 1] (lv1 := [(0, va_rf v0), (1, .int v1)]) rfl ?_
      exact p_C_moor_90 _ _ _ r hyp
    · replace hyp := (if_neg c6).symm.trans hyp
      refine rt_st (pc1 := 89) (fun _ _ B => go_icmp_lt_f d_C_moor_84 rfl c6 (go_ldc (v := (-1000003 : Int32)) d_C_moor_87 w391 B)) ?_
      exact rt_eqW Value.int hyp (rt_int d_C_moor_89 rfl)
  · replace hyp := (if_neg c1).symm.trans hyp
    refine rt_st (pc1 := 90) (fun _ _ B => go_icmp_ne_t 90 d_C_moor_70 rfl c1 B) ?_
    refine rt_sub [0, 1] (lv1 := [(0, va_rf v0), (1, .int v1)]) rfl ?_
    exact p_C_moor_90 _ _ _ r hyp
set_option maxHeartbeats 4000000 in
set_option maxRecDepth 200000 in
theorem t_C_moor (v0 : Option Nat) (v1 : Int32) (v2 : Int32) (h : MH) (r : (Int32 × MH)) (hyp : f_C_moor v0 v1 v2 h = some r) : Mt mi_C_moor 4 [va_rf v0, .int v1, .int v2] h (some (.int r.1)) r.2 := by
  refine Mt.rt (lv := [(0, va_rf v0), (1, .int v1), (2, .int v2)]) (by decide +kernel) (by simp [lv_args, mj_rfc, mj_cti, mj_ctl]) (by simp [mj_rfc, mj_cti, mj_ctl]) ?_
  unfold f_C_moor at hyp
  obtain ⟨x1, e2, hyp⟩ := Option.bind_eq_some_iff.mp hyp
  refine rt_st (pc1 := 4) (fun _ _ B => go_aload_n 0 d_C_moor_0 rfl (go_gfi d_C_moor_1 fd_10_8 w283 e2 B)) ?_
  by_cases c3 : x1 = 0
  · replace hyp := (if_pos c3).symm.trans hyp
    refine rt_st (pc1 := 9) (fun _ _ B => go_if_ne_f d_C_moor_4 rfl c3 (go_ldc (v := (-1000002 : Int32)) d_C_moor_7 w552 B)) ?_
    exact rt_eqW Value.int hyp (rt_int d_C_moor_9 rfl)
  · replace hyp := (if_neg c3).symm.trans hyp
    refine rt_st (pc1 := 16) (fun _ _ B => go_if_ne_t 10 d_C_moor_4 rfl c3 (go_iload_n 1 d_C_moor_10 rfl (go_bipush (v := (24 : Int32)) d_C_moor_11 (by decide) (go_callS1 (st := []) [.int v1, .int (24 : Int32)] (t_C_within v1 (24 : Int32) h) mm_C_within (by decide) d_C_moor_13 w313 w314 rfl (Nat.le_of_ble_eq_true rfl) rfl B)))) ?_
    by_cases c4 : (f_C_within v1 (24 : Int32)) = 0
    · replace hyp := (if_pos c4).symm.trans hyp
      refine rt_st (pc1 := 29) (fun _ _ B => go_if_eq_t 27 d_C_moor_16 rfl c4 (go_ldc (v := (-1000001 : Int32)) d_C_moor_27 w316 B)) ?_
      exact rt_eqW Value.int hyp (rt_int d_C_moor_29 rfl)
    · replace hyp := (if_neg c4).symm.trans hyp
      refine rt_st (pc1 := 24) (fun _ _ B => go_if_eq_f d_C_moor_16 rfl c4 (go_iload_n 2 d_C_moor_19 rfl (go_iconst (v := (2 : Int32)) d_C_moor_20 (by decide) (go_callS1 (st := []) [.int v2, .int (2 : Int32)] (t_C_within v2 (2 : Int32) h) mm_C_within (by decide) d_C_moor_21 w313 w314 rfl (Nat.le_of_ble_eq_true rfl) rfl B)))) ?_
      by_cases c5 : (f_C_within v2 (2 : Int32)) = 0
      · replace hyp := (if_pos c5).symm.trans hyp
        refine rt_st (pc1 := 29) (fun _ _ B => go_if_ne_f d_C_moor_24 rfl c5 (go_ldc (v := (-1000001 : Int32)) d_C_moor_27 w316 B)) ?_
        exact rt_eqW Value.int hyp (rt_int d_C_moor_29 rfl)
      · replace hyp := (if_neg c5).symm.trans hyp
        obtain ⟨x6, e7, hyp⟩ := Option.bind_eq_some_iff.mp hyp
        obtain ⟨x8, e9, hyp⟩ := Option.bind_eq_some_iff.mp hyp
        refine rt_st (pc1 := 42) (fun _ _ B => go_if_ne_t 30 d_C_moor_24 rfl c5 (go_aload_n 0 d_C_moor_30 rfl (go_gfr d_C_moor_31 fd_10_4 w279 e7 (go_gfi d_C_moor_34 fd_1_7 w242 e9 (go_iload_n 1 d_C_moor_37 rfl (go_callS1 (st := []) [.int x8, .int v1] (t_C_bit x8 v1 h) mm_C_bit (by decide) d_C_moor_38 w657 w445 rfl (Nat.le_of_ble_eq_true rfl) rfl (go_iload_n 2 d_C_moor_41 rfl B))))))) ?_
        by_cases c10 : (f_C_bit x8 v1) = v2
        · replace hyp := (if_pos c10).symm.trans hyp
          refine rt_st (pc1 := 67) (fun _ _ B => go_icmp_eq_t 65 d_C_moor_42 rfl c10 (go_ldc (v := (-1000002 : Int32)) d_C_moor_65 w552 B)) ?_
          exact rt_eqW Value.int hyp (rt_int d_C_moor_67 rfl)
        · replace hyp := (if_neg c10).symm.trans hyp
          refine rt_st (pc1 := 47) (fun _ _ B => go_icmp_eq_f d_C_moor_42 rfl c10 (go_iload_n 2 d_C_moor_45 rfl (go_iconst (v := (1 : Int32)) d_C_moor_46 (by decide) B))) ?_
          by_cases c11 : v2 = (1 : Int32)
          · replace hyp := (if_pos c11).symm.trans hyp
            obtain ⟨x12, e13, hyp⟩ := Option.bind_eq_some_iff.mp hyp
            obtain ⟨x14, e15, hyp⟩ := Option.bind_eq_some_iff.mp hyp
            refine rt_st (pc1 := 62) (fun _ _ B => go_icmp_ne_f d_C_moor_47 rfl c11 (go_aload_n 0 d_C_moor_50 rfl (go_gfr d_C_moor_51 fd_10_4 w279 e13 (go_callV1 (q := q_1) (st := []) [] (t_B_lies x12 h _ (onc_spec e15).2) mm_B_lies (by decide) d_C_moor_54 (onc_spec e15).1 rfl rfl w658 w659 w660 rfl (Nat.le_of_ble_eq_true rfl) rfl (go_iload_n 1 d_C_moor_57 rfl (go_callS1 (st := []) [.int x14, .int v1] (t_C_bit x14 v1 h) mm_C_bit (by decide) d_C_moor_58 w657 w445 rfl (Nat.le_of_ble_eq_true rfl) rfl (go_iconst (v := (1 : Int32)) d_C_moor_61 (by decide) B))))))) ?_
            by_cases c16 : (f_C_bit x14 v1) = (1 : Int32)
            · replace hyp := (if_pos c16).symm.trans hyp
              refine rt_st (pc1 := 67) (fun _ _ B => go_icmp_ne_f d_C_moor_62 rfl c16 (go_ldc (v := (-1000002 : Int32)) d_C_moor_65 w552 B)) ?_
              exact rt_eqW Value.int hyp (rt_int d_C_moor_67 rfl)
            · replace hyp := (if_neg c16).symm.trans hyp
              refine rt_st (pc1 := 68) (fun _ _ B => go_icmp_ne_t 68 d_C_moor_62 rfl c16 B) ?_
              exact p_C_moor_68 _ _ _ _ r hyp
          · replace hyp := (if_neg c11).symm.trans hyp
            refine rt_st (pc1 := 68) (fun _ _ B => go_icmp_ne_t 68 d_C_moor_47 rfl c11 B) ?_
            exact p_C_moor_68 _ _ _ _ r hyp
/-! WideTurn.silt()I -/
def f_C_silt (F : Nat) (v0 : Option Nat) (h : MH) : Option (Int32 × MH) :=
  Option.bind (gfi h v0 [10] 8) fun x1 =>
  if x1 = 0 then
    some ((-1000002 : Int32), h)
  else
    Option.bind (gfr h v0 [10] 2) fun x4 =>
    Option.bind (gfr h v0 [10] 4) fun x6 =>
    Option.bind (gfr h v0 [10] 4) fun x8 =>
    Option.bind (onc h x8 1 (f_B_siltUp F x8 h)) fun x10 =>
    Option.bind (onc x10.2 x4 0 (f_A_keep x4 x6 x10.1 x10.2)) fun h12 =>
    Option.bind (gfr h12 v0 [10] 4) fun x14 =>
    Option.bind (onc h12 x14 1 (f_B_fitsNow x14 h12)) fun x16 =>
    if x16 = 0 then
      some ((0 : Int32), h12)
    else
      some ((1 : Int32), h12)
set_option maxHeartbeats 4000000 in
set_option maxRecDepth 200000 in
theorem t_C_silt (F : Nat) (v0 : Option Nat) (h : MH) (r : (Int32 × MH)) (hyp : f_C_silt F v0 h = some r) : Mt mi_C_silt 4 [va_rf v0] h (some (.int r.1)) r.2 := by
  refine Mt.rt (lv := [(0, va_rf v0)]) (by decide +kernel) (by simp [lv_args, mj_rfc, mj_cti, mj_ctl]) (by simp [mj_rfc, mj_cti, mj_ctl]) ?_
  unfold f_C_silt at hyp
  obtain ⟨x1, e2, hyp⟩ := Option.bind_eq_some_iff.mp hyp
  refine rt_st (pc1 := 4) (fun _ _ B => go_aload_n 0 d_C_silt_0 rfl (go_gfi d_C_silt_1 fd_10_8 w283 e2 B)) ?_
  by_cases c3 : x1 = 0
  · replace hyp := (if_pos c3).symm.trans hyp
    refine rt_st (pc1 := 9) (fun _ _ B => go_if_ne_f d_C_silt_4 rfl c3 (go_ldc (v := (-1000002 : Int32)) d_C_silt_7 w552 B)) ?_
    exact rt_eqW Value.int hyp (rt_int d_C_silt_9 rfl)
  · replace hyp := (if_neg c3).symm.trans hyp
    obtain ⟨x4, e5, hyp⟩ := Option.bind_eq_some_iff.mp hyp
    obtain ⟨x6, e7, hyp⟩ := Option.bind_eq_some_iff.mp hyp
    obtain ⟨x8, e9, hyp⟩ := Option.bind_eq_some_iff.mp hyp
    obtain ⟨x10, e11, hyp⟩ := Option.bind_eq_some_iff.mp hyp
    obtain ⟨h12, e13, hyp⟩ := Option.bind_eq_some_iff.mp hyp
    obtain ⟨x14, e15, hyp⟩ := Option.bind_eq_some_iff.mp hyp
    obtain ⟨x16, e17, hyp⟩ := Option.bind_eq_some_iff.mp hyp
    refine rt_st (pc1 := 35) (fun _ _ B => go_if_ne_t 10 d_C_silt_4 rfl c3 (go_aload_n 0 d_C_silt_10 rfl (go_gfr d_C_silt_11 fd_10_2 w277 e5 (go_aload_n 0 d_C_silt_14 rfl (go_gfr d_C_silt_15 fd_10_4 w279 e7 (go_aload_n 0 d_C_silt_18 rfl (go_gfr d_C_silt_19 fd_10_4 w279 e9 (go_callV1 (q := q_1) (st := [va_rf x6, va_rf x4]) [] (t_B_siltUp F x8 h _ (onc_spec e11).2) mm_B_siltUp (by decide) d_C_silt_22 (onc_spec e11).1 rfl rfl w675 w676 w677 rfl (Nat.le_of_ble_eq_true rfl) rfl (go_callV0 (q := q_0) (st := []) [va_rf x6, .int x10.1] (t_A_keep x4 x6 x10.1 x10.2 _ (onc_spec e13).2) mm_A_keep (by decide) d_C_silt_25 (onc_spec e13).1 rfl rfl w634 w635 w636 rfl (Nat.le_of_ble_eq_true rfl) rfl (go_aload_n 0 d_C_silt_28 rfl (go_gfr d_C_silt_29 fd_10_4 w279 e15 (go_callV1 (q := q_1) (st := []) [] (t_B_fitsNow x14 h12 _ (onc_spec e17).2) mm_B_fitsNow (by decide) d_C_silt_32 (onc_spec e17).1 rfl rfl w679 w680 w681 rfl (Nat.le_of_ble_eq_true rfl) rfl B)))))))))))) ?_
    by_cases c18 : x16 = 0
    · replace hyp := (if_pos c18).symm.trans hyp
      refine rt_st (pc1 := 43) (fun _ _ B => go_if_eq_t 42 d_C_silt_35 rfl c18 (go_iconst (v := (0 : Int32)) d_C_silt_42 (by decide) B)) ?_
      exact rt_eqW Value.int hyp (rt_int d_C_silt_43 rfl)
    · replace hyp := (if_neg c18).symm.trans hyp
      refine rt_st (pc1 := 43) (fun _ _ B => go_if_eq_f d_C_silt_35 rfl c18 (go_iconst (v := (1 : Int32)) d_C_silt_38 (by decide) (go_goto 43 d_C_silt_39 rfl B))) ?_
      exact rt_eqW Value.int hyp (rt_int d_C_silt_43 rfl)
/-! WideTurn.boat(I)I -/
def f_C_boat (v0 : Option Nat) (v1 : Int32) (h : MH) : Option (Int32) :=
  Option.bind (gfi h v0 [10] 8) fun x1 =>
  if x1 = 0 then
    some (-1000002 : Int32)
  else
    if v1 = (0 : Int32) then
      Option.bind (gfr h v0 [10] 4) fun x5 =>
      Option.bind (gfi h x5 [1] 3) fun x7 =>
      some x7
    else
    if v1 = (1 : Int32) then
      Option.bind (gfr h v0 [10] 4) fun x10 =>
      Option.bind (gfi h x10 [1] 4) fun x12 =>
      some x12
    else
    if v1 = (2 : Int32) then
      Option.bind (gfr h v0 [10] 4) fun x15 =>
      Option.bind (onc h x15 1 (f_B_sinks x15 h)) fun x17 =>
      some x17
    else
    if v1 = (3 : Int32) then
      Option.bind (gfr h v0 [10] 4) fun x20 =>
      Option.bind (gfi h x20 [1] 6) fun x22 =>
      some x22
    else
    if v1 = (4 : Int32) then
      Option.bind (gfr h v0 [10] 4) fun x25 =>
      Option.bind (onc h x25 1 (f_B_fitsNow x25 h)) fun x27 =>
      if x27 = 0 then
        some (0 : Int32)
      else
        some (1 : Int32)
    else
    if v1 = (5 : Int32) then
      Option.bind (gfr h v0 [10] 4) fun x31 =>
      Option.bind (onc h x31 1 (f_B_lies x31 h)) fun x33 =>
      some x33
    else
    some (-1000001 : Int32)
set_option maxHeartbeats 4000000 in
set_option maxRecDepth 200000 in
theorem t_C_boat (v0 : Option Nat) (v1 : Int32) (h : MH) (r : (Int32)) (hyp : f_C_boat v0 v1 h = some r) : Mt mi_C_boat 4 [va_rf v0, .int v1] h (some (.int r)) h := by
  refine Mt.rt (lv := [(0, va_rf v0), (1, .int v1)]) (by decide +kernel) (by simp [lv_args, mj_rfc, mj_cti, mj_ctl]) (by simp [mj_rfc, mj_cti, mj_ctl]) ?_
  unfold f_C_boat at hyp
  obtain ⟨x1, e2, hyp⟩ := Option.bind_eq_some_iff.mp hyp
  refine rt_st (pc1 := 4) (fun _ _ B => go_aload_n 0 d_C_boat_0 rfl (go_gfi d_C_boat_1 fd_10_8 w283 e2 B)) ?_
  by_cases c3 : x1 = 0
  · replace hyp := (if_pos c3).symm.trans hyp
    refine rt_st (pc1 := 9) (fun _ _ B => go_if_ne_f d_C_boat_4 rfl c3 (go_ldc (v := (-1000002 : Int32)) d_C_boat_7 w552 B)) ?_
    exact rt_eqR Value.int hyp (rt_int d_C_boat_9 rfl)
  · replace hyp := (if_neg c3).symm.trans hyp
    refine rt_st (pc1 := 11) (fun _ _ B => go_if_ne_t 10 d_C_boat_4 rfl c3 (go_iload_n 1 d_C_boat_10 rfl B)) ?_
    by_cases c4 : v1 = (0 : Int32)
    · replace hyp := (if_pos c4).symm.trans hyp
      obtain ⟨x5, e6, hyp⟩ := Option.bind_eq_some_iff.mp hyp
      obtain ⟨x7, e8, hyp⟩ := Option.bind_eq_some_iff.mp hyp
      refine rt_st (pc1 := 55) (fun _ _ B => go_tsw 48 d_C_boat_11 (by decide) (by rw [c4]; decide) (go_aload_n 0 d_C_boat_48 rfl (go_gfr d_C_boat_49 fd_10_4 w279 e6 (go_gfi d_C_boat_52 fd_1_3 w226 e8 B)))) ?_
      exact rt_eqR Value.int hyp (rt_int d_C_boat_55 rfl)
    replace hyp := (if_neg c4).symm.trans hyp
    by_cases c9 : v1 = (1 : Int32)
    · replace hyp := (if_pos c9).symm.trans hyp
      obtain ⟨x10, e11, hyp⟩ := Option.bind_eq_some_iff.mp hyp
      obtain ⟨x12, e13, hyp⟩ := Option.bind_eq_some_iff.mp hyp
      refine rt_st (pc1 := 63) (fun _ _ B => go_tsw 56 d_C_boat_11 (by decide) (by rw [c9]; decide) (go_aload_n 0 d_C_boat_56 rfl (go_gfr d_C_boat_57 fd_10_4 w279 e11 (go_gfi d_C_boat_60 fd_1_4 w231 e13 B)))) ?_
      exact rt_eqR Value.int hyp (rt_int d_C_boat_63 rfl)
    replace hyp := (if_neg c9).symm.trans hyp
    by_cases c14 : v1 = (2 : Int32)
    · replace hyp := (if_pos c14).symm.trans hyp
      obtain ⟨x15, e16, hyp⟩ := Option.bind_eq_some_iff.mp hyp
      obtain ⟨x17, e18, hyp⟩ := Option.bind_eq_some_iff.mp hyp
      refine rt_st (pc1 := 71) (fun _ _ B => go_tsw 64 d_C_boat_11 (by decide) (by rw [c14]; decide) (go_aload_n 0 d_C_boat_64 rfl (go_gfr d_C_boat_65 fd_10_4 w279 e16 (go_callV1 (q := q_1) (st := []) [] (t_B_sinks x15 h _ (onc_spec e18).2) mm_B_sinks (by decide) d_C_boat_68 (onc_spec e18).1 rfl rfl w652 w576 w577 rfl (Nat.le_of_ble_eq_true rfl) rfl B)))) ?_
      exact rt_eqR Value.int hyp (rt_int d_C_boat_71 rfl)
    replace hyp := (if_neg c14).symm.trans hyp
    by_cases c19 : v1 = (3 : Int32)
    · replace hyp := (if_pos c19).symm.trans hyp
      obtain ⟨x20, e21, hyp⟩ := Option.bind_eq_some_iff.mp hyp
      obtain ⟨x22, e23, hyp⟩ := Option.bind_eq_some_iff.mp hyp
      refine rt_st (pc1 := 79) (fun _ _ B => go_tsw 72 d_C_boat_11 (by decide) (by rw [c19]; decide) (go_aload_n 0 d_C_boat_72 rfl (go_gfr d_C_boat_73 fd_10_4 w279 e21 (go_gfi d_C_boat_76 fd_1_6 w238 e23 B)))) ?_
      exact rt_eqR Value.int hyp (rt_int d_C_boat_79 rfl)
    replace hyp := (if_neg c19).symm.trans hyp
    by_cases c24 : v1 = (4 : Int32)
    · replace hyp := (if_pos c24).symm.trans hyp
      obtain ⟨x25, e26, hyp⟩ := Option.bind_eq_some_iff.mp hyp
      obtain ⟨x27, e28, hyp⟩ := Option.bind_eq_some_iff.mp hyp
      refine rt_st (pc1 := 87) (fun _ _ B => go_tsw 80 d_C_boat_11 (by decide) (by rw [c24]; decide) (go_aload_n 0 d_C_boat_80 rfl (go_gfr d_C_boat_81 fd_10_4 w279 e26 (go_callV1 (q := q_1) (st := []) [] (t_B_fitsNow x25 h _ (onc_spec e28).2) mm_B_fitsNow (by decide) d_C_boat_84 (onc_spec e28).1 rfl rfl w679 w680 w681 rfl (Nat.le_of_ble_eq_true rfl) rfl B)))) ?_
      by_cases c29 : x27 = 0
      · replace hyp := (if_pos c29).symm.trans hyp
        refine rt_st (pc1 := 95) (fun _ _ B => go_if_eq_t 94 d_C_boat_87 rfl c29 (go_iconst (v := (0 : Int32)) d_C_boat_94 (by decide) B)) ?_
        exact rt_eqR Value.int hyp (rt_int d_C_boat_95 rfl)
      · replace hyp := (if_neg c29).symm.trans hyp
        refine rt_st (pc1 := 95) (fun _ _ B => go_if_eq_f d_C_boat_87 rfl c29 (go_iconst (v := (1 : Int32)) d_C_boat_90 (by decide) (go_goto 95 d_C_boat_91 rfl B))) ?_
        exact rt_eqR Value.int hyp (rt_int d_C_boat_95 rfl)
    replace hyp := (if_neg c24).symm.trans hyp
    by_cases c30 : v1 = (5 : Int32)
    · replace hyp := (if_pos c30).symm.trans hyp
      obtain ⟨x31, e32, hyp⟩ := Option.bind_eq_some_iff.mp hyp
      obtain ⟨x33, e34, hyp⟩ := Option.bind_eq_some_iff.mp hyp
      refine rt_st (pc1 := 103) (fun _ _ B => go_tsw 96 d_C_boat_11 (by decide) (by rw [c30]; decide) (go_aload_n 0 d_C_boat_96 rfl (go_gfr d_C_boat_97 fd_10_4 w279 e32 (go_callV1 (q := q_1) (st := []) [] (t_B_lies x31 h _ (onc_spec e34).2) mm_B_lies (by decide) d_C_boat_100 (onc_spec e34).1 rfl rfl w658 w659 w660 rfl (Nat.le_of_ble_eq_true rfl) rfl B)))) ?_
      exact rt_eqR Value.int hyp (rt_int d_C_boat_103 rfl)
    replace hyp := (if_neg c30).symm.trans hyp
    refine rt_st (pc1 := 106) (fun _ _ B => go_tsw 104 d_C_boat_11 (by decide) (mj_swd [0, 1, 2, 3, 4, 5] (List.forall_mem_cons.mpr ⟨mj_swn c4 (by decide), List.forall_mem_cons.mpr ⟨mj_swn c9 (by decide), List.forall_mem_cons.mpr ⟨mj_swn c14 (by decide), List.forall_mem_cons.mpr ⟨mj_swn c19 (by decide), List.forall_mem_cons.mpr ⟨mj_swn c24 (by decide), List.forall_mem_cons.mpr ⟨mj_swn c30 (by decide), List.forall_mem_nil _⟩⟩⟩⟩⟩⟩) (by decide) rfl) (go_ldc (v := (-1000001 : Int32)) d_C_boat_104 w316 B)) ?_
    exact rt_eqR Value.int hyp (rt_int d_C_boat_106 rfl)
/-! WideTurn.cell(II)I -/
def f_C_cell (v0 : Option Nat) (v1 : Int32) (v2 : Int32) (h : MH) : Option (Int32) :=
  Option.bind (gfi h v0 [10] 8) fun x1 =>
  if x1 = 0 then
    some (-1000002 : Int32)
  else
    if (f_C_within v1 (24 : Int32)) = 0 then
      some (-1000001 : Int32)
    else
      if (f_C_within v2 (2 : Int32)) = 0 then
        some (-1000001 : Int32)
      else
        if v2 = 0 then
          Option.bind (gfr h v0 [10] 4) fun x7 =>
          Option.bind (gfr h x7 [1] 9) fun x9 =>
          Option.bind (f_C_at x9 v1 h) fun x11 =>
          some x11
        else
          Option.bind (gfr h v0 [10] 4) fun x13 =>
          Option.bind (gfi h x13 [1] 7) fun x15 =>
          some (f_C_bit x15 v1)
set_option maxHeartbeats 4000000 in
set_option maxRecDepth 200000 in
theorem t_C_cell (v0 : Option Nat) (v1 : Int32) (v2 : Int32) (h : MH) (r : (Int32)) (hyp : f_C_cell v0 v1 v2 h = some r) : Mt mi_C_cell 2 [va_rf v0, .int v1, .int v2] h (some (.int r)) h := by
  refine Mt.rt (lv := [(0, va_rf v0), (1, .int v1), (2, .int v2)]) (by decide +kernel) (by simp [lv_args, mj_rfc, mj_cti, mj_ctl]) (by simp [mj_rfc, mj_cti, mj_ctl]) ?_
  unfold f_C_cell at hyp
  obtain ⟨x1, e2, hyp⟩ := Option.bind_eq_some_iff.mp hyp
  refine rt_st (pc1 := 4) (fun _ _ B => go_aload_n 0 d_C_cell_0 rfl (go_gfi d_C_cell_1 fd_10_8 w283 e2 B)) ?_
  by_cases c3 : x1 = 0
  · replace hyp := (if_pos c3).symm.trans hyp
    refine rt_st (pc1 := 9) (fun _ _ B => go_if_ne_f d_C_cell_4 rfl c3 (go_ldc (v := (-1000002 : Int32)) d_C_cell_7 w552 B)) ?_
    exact rt_eqR Value.int hyp (rt_int d_C_cell_9 rfl)
  · replace hyp := (if_neg c3).symm.trans hyp
    refine rt_st (pc1 := 16) (fun _ _ B => go_if_ne_t 10 d_C_cell_4 rfl c3 (go_iload_n 1 d_C_cell_10 rfl (go_bipush (v := (24 : Int32)) d_C_cell_11 (by decide) (go_callS1 (st := []) [.int v1, .int (24 : Int32)] (t_C_within v1 (24 : Int32) h) mm_C_within (by decide) d_C_cell_13 w313 w314 rfl (Nat.le_of_ble_eq_true rfl) rfl B)))) ?_
    by_cases c4 : (f_C_within v1 (24 : Int32)) = 0
    · replace hyp := (if_pos c4).symm.trans hyp
      refine rt_st (pc1 := 29) (fun _ _ B => go_if_eq_t 27 d_C_cell_16 rfl c4 (go_ldc (v := (-1000001 : Int32)) d_C_cell_27 w316 B)) ?_
      exact rt_eqR Value.int hyp (rt_int d_C_cell_29 rfl)
    · replace hyp := (if_neg c4).symm.trans hyp
      refine rt_st (pc1 := 24) (fun _ _ B => go_if_eq_f d_C_cell_16 rfl c4 (go_iload_n 2 d_C_cell_19 rfl (go_iconst (v := (2 : Int32)) d_C_cell_20 (by decide) (go_callS1 (st := []) [.int v2, .int (2 : Int32)] (t_C_within v2 (2 : Int32) h) mm_C_within (by decide) d_C_cell_21 w313 w314 rfl (Nat.le_of_ble_eq_true rfl) rfl B)))) ?_
      by_cases c5 : (f_C_within v2 (2 : Int32)) = 0
      · replace hyp := (if_pos c5).symm.trans hyp
        refine rt_st (pc1 := 29) (fun _ _ B => go_if_ne_f d_C_cell_24 rfl c5 (go_ldc (v := (-1000001 : Int32)) d_C_cell_27 w316 B)) ?_
        exact rt_eqR Value.int hyp (rt_int d_C_cell_29 rfl)
      · replace hyp := (if_neg c5).symm.trans hyp
        refine rt_st (pc1 := 31) (fun _ _ B => go_if_ne_t 30 d_C_cell_24 rfl c5 (go_iload_n 2 d_C_cell_30 rfl B)) ?_
        by_cases c6 : v2 = 0
        · replace hyp := (if_pos c6).symm.trans hyp
          obtain ⟨x7, e8, hyp⟩ := Option.bind_eq_some_iff.mp hyp
          obtain ⟨x9, e10, hyp⟩ := Option.bind_eq_some_iff.mp hyp
          obtain ⟨x11, e12, hyp⟩ := Option.bind_eq_some_iff.mp hyp
          refine rt_st (pc1 := 59) (fun _ _ B => go_if_ne_f d_C_cell_31 rfl c6 (go_aload_n 0 d_C_cell_34 rfl (go_gfr d_C_cell_35 fd_10_4 w279 e8 (go_gfr d_C_cell_38 fd_1_9 w249 e10 (go_iload_n 1 d_C_cell_41 rfl (go_callS1 (st := []) [va_rf x9, .int v1] (t_C_at x9 v1 h _ e12) mm_C_at (by decide) d_C_cell_42 w691 w343 rfl (Nat.le_of_ble_eq_true rfl) rfl (go_goto 59 d_C_cell_45 rfl B))))))) ?_
          exact rt_eqR Value.int hyp (rt_int d_C_cell_59 rfl)
        · replace hyp := (if_neg c6).symm.trans hyp
          obtain ⟨x13, e14, hyp⟩ := Option.bind_eq_some_iff.mp hyp
          obtain ⟨x15, e16, hyp⟩ := Option.bind_eq_some_iff.mp hyp
          refine rt_st (pc1 := 59) (fun _ _ B => go_if_ne_t 48 d_C_cell_31 rfl c6 (go_aload_n 0 d_C_cell_48 rfl (go_gfr d_C_cell_49 fd_10_4 w279 e14 (go_gfi d_C_cell_52 fd_1_7 w242 e16 (go_iload_n 1 d_C_cell_55 rfl (go_callS1 (st := []) [.int x15, .int v1] (t_C_bit x15 v1 h) mm_C_bit (by decide) d_C_cell_56 w657 w445 rfl (Nat.le_of_ble_eq_true rfl) rfl B)))))) ?_
          exact rt_eqR Value.int hyp (rt_int d_C_cell_59 rfl)
/-! WideTurn.hand(II)I -/
def f_C_hand (v0 : Option Nat) (v1 : Int32) (v2 : Int32) (h : MH) : Option (Int32) :=
  Option.bind (gfr h v0 [10] 4) fun x1 =>
  Option.bind (onc h x1 1 (f_B_handAt x1 v1 h)) fun x3 =>
  if x3 = none then
    some (-1000001 : Int32)
  else
    if (f_C_within v2 (8 : Int32)) = 0 then
      some (-1000001 : Int32)
    else
      Option.bind (v_H_minutesFor x3 v2 h) fun x7 =>
      some x7
set_option maxHeartbeats 4000000 in
set_option maxRecDepth 200000 in
theorem vs_C_hand_27 {h0 : MH} (h : MH) {o : Option Nat} {a0 : Int32} {pc2 : Nat} {lv lv2 : List (Nat × Value)} {st st2 : List Value} {h2 : MH} {x : Int32} (e : v_H_minutesFor o a0 h = some x) (hst : st.length ≤ 4) (B : Go mi_C_hand 3 h0 (27 + 3) lv (.int x :: st) h pc2 lv2 st2 h2) : Go mi_C_hand 3 h0 27 lv (.int a0 :: va_rf o :: st) h pc2 lv2 st2 h2 := by
  unfold v_H_minutesFor at e
  by_cases c2 : cls h o = some 2
  · replace e := (if_pos c2).symm.trans e
    exact go_callU1 (q := q_2) [.int a0] (t_H_minutesFor o a0 h _ e) mm_H_minutesFor (by decide) d_C_hand_27 c2 rfl w647 w593 (Or.inr w601) (by decide +kernel) w594 w592 rfl hst rfl B
  replace e := (if_neg c2).symm.trans e
  by_cases c3 : cls h o = some 3
  · replace e := (if_pos c3).symm.trans e
    exact go_callU1 (q := q_3) [.int a0] (t_H_minutesFor o a0 h _ e) mm_H_minutesFor (by decide) d_C_hand_27 c3 rfl w647 w593 (Or.inr w601) (by decide +kernel) w595 w592 rfl hst rfl B
  replace e := (if_neg c3).symm.trans e
  by_cases c4 : cls h o = some 4
  · replace e := (if_pos c4).symm.trans e
    exact go_callU1 (q := q_4) [.int a0] (t_Ro_minutesFor o a0 h _ e) mm_Ro_minutesFor (by decide) d_C_hand_27 c4 rfl w647 w593 (Or.inr w601) (by decide +kernel) w596 w597 rfl hst rfl B
  replace e := (if_neg c4).symm.trans e
  by_cases c7 : cls h o = some 7
  · replace e := (if_pos c7).symm.trans e
    exact go_callU1 (q := q_7) [.int a0] (t_H_minutesFor o a0 h _ e) mm_H_minutesFor (by decide) d_C_hand_27 c7 rfl w647 w593 (Or.inr w601) (by decide +kernel) w603 w592 rfl hst rfl B
  replace e := (if_neg c7).symm.trans e
  by_cases c8 : cls h o = some 8
  · replace e := (if_pos c8).symm.trans e
    exact go_callU1 (q := q_8) [.int a0] (t_H_minutesFor o a0 h _ e) mm_H_minutesFor (by decide) d_C_hand_27 c8 rfl w647 w593 (Or.inr w601) (by decide +kernel) w604 w592 rfl hst rfl B
  replace e := (if_neg c8).symm.trans e
  cases e
set_option maxHeartbeats 4000000 in
set_option maxRecDepth 200000 in
theorem t_C_hand (v0 : Option Nat) (v1 : Int32) (v2 : Int32) (h : MH) (r : (Int32)) (hyp : f_C_hand v0 v1 v2 h = some r) : Mt mi_C_hand 3 [va_rf v0, .int v1, .int v2] h (some (.int r)) h := by
  refine Mt.rt (lv := [(0, va_rf v0), (1, .int v1), (2, .int v2)]) (by decide +kernel) (by simp [lv_args, mj_rfc, mj_cti, mj_ctl]) (by simp [mj_rfc, mj_cti, mj_ctl]) ?_
  unfold f_C_hand at hyp
  obtain ⟨x1, e2, hyp⟩ := Option.bind_eq_some_iff.mp hyp
  obtain ⟨x3, e4, hyp⟩ := Option.bind_eq_some_iff.mp hyp
  refine rt_st (pc1 := 10) (fun _ _ B => go_aload_n 0 d_C_hand_0 rfl (go_gfr d_C_hand_1 fd_10_4 w279 e2 (go_iload_n 1 d_C_hand_4 rfl (go_callV1 (q := q_1) (st := []) [.int v1] (t_B_handAt x1 v1 h _ (onc_spec e4).2) mm_B_handAt (by decide) d_C_hand_5 (onc_spec e4).1 rfl rfl w567 w568 w569 rfl (Nat.le_of_ble_eq_true rfl) rfl (go_astore_n (lv1 := [(3, va_rf x3), (0, va_rf v0), (1, .int v1), (2, .int v2)]) d_C_hand_8 (by decide) rfl (go_aload_n 0 d_C_hand_9 rfl B)))))) ?_
  by_cases c5 : x3 = none
  · replace hyp := (if_pos c5).symm.trans hyp
    refine rt_st (pc1 := 24) (fun _ _ B => go_ifnull_t 22 d_C_hand_10 rfl c5 (go_ldc (v := (-1000001 : Int32)) d_C_hand_22 w316 B)) ?_
    exact rt_eqR Value.int hyp (rt_int d_C_hand_24 rfl)
  · replace hyp := (if_neg c5).symm.trans hyp
    refine rt_st (pc1 := 19) (fun _ _ B => go_ifnull_f d_C_hand_10 rfl c5 (go_iload_n 3 d_C_hand_13 rfl (go_bipush (v := (8 : Int32)) d_C_hand_14 (by decide) (go_callS1 (st := []) [.int v2, .int (8 : Int32)] (t_C_within v2 (8 : Int32) h) mm_C_within (by decide) d_C_hand_16 w313 w314 rfl (Nat.le_of_ble_eq_true rfl) rfl B)))) ?_
    by_cases c6 : (f_C_within v2 (8 : Int32)) = 0
    · replace hyp := (if_pos c6).symm.trans hyp
      refine rt_st (pc1 := 24) (fun _ _ B => go_if_ne_f d_C_hand_19 rfl c6 (go_ldc (v := (-1000001 : Int32)) d_C_hand_22 w316 B)) ?_
      exact rt_eqR Value.int hyp (rt_int d_C_hand_24 rfl)
    · replace hyp := (if_neg c6).symm.trans hyp
      obtain ⟨x7, e8, hyp⟩ := Option.bind_eq_some_iff.mp hyp
      refine rt_st (pc1 := 30) (fun _ _ B => go_if_ne_t 25 d_C_hand_19 rfl c6 (go_aload_n 0 d_C_hand_25 rfl (go_iload_n 3 d_C_hand_26 rfl (vs_C_hand_27 h (st := []) e8 (Nat.le_of_ble_eq_true rfl) B)))) ?_
      exact rt_eqR Value.int hyp (rt_int d_C_hand_30 rfl)
/-! WideTurn.way(III)I -/
def f_C_way (F : Nat) (v0 : Option Nat) (v1 : Int32) (v2 : Int32) (v3 : Int32) (h : MH) : Option (Int32 × MH) :=
  Option.bind (gfi h v0 [10] 8) fun x1 =>
  if x1 = 0 then
    some ((-1000002 : Int32), h)
  else
    if (f_C_within v1 (24 : Int32)) = 0 then
      some ((-1000001 : Int32), h)
    else
      if (f_C_within v2 (8 : Int32)) = 0 then
        some ((-1000001 : Int32), h)
      else
        if (f_C_within v3 (2 : Int32)) = 0 then
          some ((-1000001 : Int32), h)
        else
          Option.bind (gfr h v0 [10] 3) fun x7 =>
          Option.bind (gfr h v0 [10] 4) fun x9 =>
          Option.bind (gfr h v0 [10] 4) fun x11 =>
          Option.bind (onc h x11 1 (f_B_sinks x11 h)) fun x13 =>
          Option.bind (onc h x7 6 (f_S_explore F x7 x9 x13 (-1 : Int32) h)) fun h15 =>
          Option.bind (gfr h15 v0 [10] 3) fun x17 =>
          Option.bind (onc h15 x17 6 (f_S_seek F x17 v1 v1 v2 h15)) fun h19 =>
          if v3 = 0 then
            Option.bind (gfr h19 v0 [10] 3) fun x22 =>
            Option.bind (gfi h19 x22 [6] 12) fun x24 =>
            some (x24, h19)
          else
            Option.bind (gfr h19 v0 [10] 3) fun x26 =>
            Option.bind (gfi h19 x26 [6] 13) fun x28 =>
            some (x28, h19)
set_option maxHeartbeats 4000000 in
set_option maxRecDepth 200000 in
theorem t_C_way (F : Nat) (v0 : Option Nat) (v1 : Int32) (v2 : Int32) (v3 : Int32) (h : MH) (r : (Int32 × MH)) (hyp : f_C_way F v0 v1 v2 v3 h = some r) : Mt mi_C_way 5 [va_rf v0, .int v1, .int v2, .int v3] h (some (.int r.1)) r.2 := by
  refine Mt.rt (lv := [(0, va_rf v0), (1, .int v1), (2, .int v2), (3, .int v3)]) (by decide +kernel) (by simp [lv_args, mj_rfc, mj_cti, mj_ctl]) (by simp [mj_rfc, mj_cti, mj_ctl]) ?_
  unfold f_C_way at hyp
  obtain ⟨x1, e2, hyp⟩ := Option.bind_eq_some_iff.mp hyp
  refine rt_st (pc1 := 4) (fun _ _ B => go_aload_n 0 d_C_way_0 rfl (go_gfi d_C_way_1 fd_10_8 w283 e2 B)) ?_
  by_cases c3 : x1 = 0
  · replace hyp := (if_pos c3).symm.trans hyp
    refine rt_st (pc1 := 9) (fun _ _ B => go_if_ne_f d_C_way_4 rfl c3 (go_ldc (v := (-1000002 : Int32)) d_C_way_7 w552 B)) ?_
    exact rt_eqW Value.int hyp (rt_int d_C_way_9 rfl)
  · replace hyp := (if_neg c3).symm.trans hyp
    refine rt_st (pc1 := 16) (fun _ _ B => go_if_ne_t 10 d_C_way_4 rfl c3 (go_iload_n 1 d_C_way_10 rfl (go_bipush (v := (24 : Int32)) d_C_way_11 (by decide) (go_callS1 (st := []) [.int v1, .int (24 : Int32)] (t_C_within v1 (24 : Int32) h) mm_C_within (by decide) d_C_way_13 w313 w314 rfl (Nat.le_of_ble_eq_true rfl) rfl B)))) ?_
    by_cases c4 : (f_C_within v1 (24 : Int32)) = 0
    · replace hyp := (if_pos c4).symm.trans hyp
      refine rt_st (pc1 := 38) (fun _ _ B => go_if_eq_t 36 d_C_way_16 rfl c4 (go_ldc (v := (-1000001 : Int32)) d_C_way_36 w316 B)) ?_
      exact rt_eqW Value.int hyp (rt_int d_C_way_38 rfl)
    · replace hyp := (if_neg c4).symm.trans hyp
      refine rt_st (pc1 := 25) (fun _ _ B => go_if_eq_f d_C_way_16 rfl c4 (go_iload_n 2 d_C_way_19 rfl (go_bipush (v := (8 : Int32)) d_C_way_20 (by decide) (go_callS1 (st := []) [.int v2, .int (8 : Int32)] (t_C_within v2 (8 : Int32) h) mm_C_within (by decide) d_C_way_22 w313 w314 rfl (Nat.le_of_ble_eq_true rfl) rfl B)))) ?_
      by_cases c5 : (f_C_within v2 (8 : Int32)) = 0
      · replace hyp := (if_pos c5).symm.trans hyp
        refine rt_st (pc1 := 38) (fun _ _ B => go_if_eq_t 36 d_C_way_25 rfl c5 (go_ldc (v := (-1000001 : Int32)) d_C_way_36 w316 B)) ?_
        exact rt_eqW Value.int hyp (rt_int d_C_way_38 rfl)
      · replace hyp := (if_neg c5).symm.trans hyp
        refine rt_st (pc1 := 33) (fun _ _ B => go_if_eq_f d_C_way_25 rfl c5 (go_iload_n 3 d_C_way_28 rfl (go_iconst (v := (2 : Int32)) d_C_way_29 (by decide) (go_callS1 (st := []) [.int v3, .int (2 : Int32)] (t_C_within v3 (2 : Int32) h) mm_C_within (by decide) d_C_way_30 w313 w314 rfl (Nat.le_of_ble_eq_true rfl) rfl B)))) ?_
        by_cases c6 : (f_C_within v3 (2 : Int32)) = 0
        · replace hyp := (if_pos c6).symm.trans hyp
          refine rt_st (pc1 := 38) (fun _ _ B => go_if_ne_f d_C_way_33 rfl c6 (go_ldc (v := (-1000001 : Int32)) d_C_way_36 w316 B)) ?_
          exact rt_eqW Value.int hyp (rt_int d_C_way_38 rfl)
        · replace hyp := (if_neg c6).symm.trans hyp
          obtain ⟨x7, e8, hyp⟩ := Option.bind_eq_some_iff.mp hyp
          obtain ⟨x9, e10, hyp⟩ := Option.bind_eq_some_iff.mp hyp
          obtain ⟨x11, e12, hyp⟩ := Option.bind_eq_some_iff.mp hyp
          obtain ⟨x13, e14, hyp⟩ := Option.bind_eq_some_iff.mp hyp
          obtain ⟨h15, e16, hyp⟩ := Option.bind_eq_some_iff.mp hyp
          obtain ⟨x17, e18, hyp⟩ := Option.bind_eq_some_iff.mp hyp
          obtain ⟨h19, e20, hyp⟩ := Option.bind_eq_some_iff.mp hyp
          refine rt_st (pc1 := 69) (fun _ _ B => go_if_ne_t 39 d_C_way_33 rfl c6 (go_aload_n 0 d_C_way_39 rfl (go_gfr d_C_way_40 fd_10_3 w278 e8 (go_aload_n 0 d_C_way_43 rfl (go_gfr d_C_way_44 fd_10_4 w279 e10 (go_aload_n 0 d_C_way_47 rfl (go_gfr d_C_way_48 fd_10_4 w279 e12 (go_callV1 (q := q_1) (st := [va_rf x9, va_rf x7]) [] (t_B_sinks x11 h _ (onc_spec e14).2) mm_B_sinks (by decide) d_C_way_51 (onc_spec e14).1 rfl rfl w652 w576 w577 rfl (Nat.le_of_ble_eq_true rfl) rfl (go_iconst (v := (-1 : Int32)) d_C_way_54 (by decide) (go_callV0 (q := q_6) (st := []) [va_rf x9, .int x13, .int (-1 : Int32)] (t_S_explore F x7 x9 x13 (-1 : Int32) h _ (onc_spec e16).2) mm_S_explore (by decide) d_C_way_55 (onc_spec e16).1 rfl rfl w700 w701 w702 rfl (Nat.le_of_ble_eq_true rfl) rfl (go_aload_n 0 d_C_way_58 rfl (go_gfr d_C_way_59 fd_10_3 w278 e18 (go_iload_n 1 d_C_way_62 rfl (go_iload_n 1 d_C_way_63 rfl (go_iload_n 2 d_C_way_64 rfl (go_callV0 (q := q_6) (st := []) [.int v1, .int v1, .int v2] (t_S_seek F x17 v1 v1 v2 h15 _ (onc_spec e20).2) mm_S_seek (by decide) d_C_way_65 (onc_spec e20).1 rfl rfl w753 w754 w755 rfl (Nat.le_of_ble_eq_true rfl) rfl (go_iload_n 3 d_C_way_68 rfl B))))))))))))))))) ?_
          by_cases c21 : v3 = 0
          · replace hyp := (if_pos c21).symm.trans hyp
            obtain ⟨x22, e23, hyp⟩ := Option.bind_eq_some_iff.mp hyp
            obtain ⟨x24, e25, hyp⟩ := Option.bind_eq_some_iff.mp hyp
            refine rt_st (pc1 := 89) (fun _ _ B => go_if_ne_f d_C_way_69 rfl c21 (go_aload_n 0 d_C_way_72 rfl (go_gfr d_C_way_73 fd_10_3 w278 e23 (go_gfi d_C_way_76 fd_6_12 w173 e25 (go_goto 89 d_C_way_79 rfl B))))) ?_
            exact rt_eqW Value.int hyp (rt_int d_C_way_89 rfl)
          · replace hyp := (if_neg c21).symm.trans hyp
            obtain ⟨x26, e27, hyp⟩ := Option.bind_eq_some_iff.mp hyp
            obtain ⟨x28, e29, hyp⟩ := Option.bind_eq_some_iff.mp hyp
            refine rt_st (pc1 := 89) (fun _ _ B => go_if_ne_t 82 d_C_way_69 rfl c21 (go_aload_n 0 d_C_way_82 rfl (go_gfr d_C_way_83 fd_10_3 w278 e27 (go_gfi d_C_way_86 fd_6_13 w175 e29 B)))) ?_
            exact rt_eqW Value.int hyp (rt_int d_C_way_89 rfl)
/-! WideTurn.turned(I)I -/
def f_C_turned (F : Nat) (v0 : Option Nat) (v1 : Int32) (h : MH) : Option (Int32 × MH) :=
  Option.bind (gfi h v0 [10] 8) fun x1 =>
  if x1 = 0 then
    some ((-1000002 : Int32), h)
  else
    if (f_C_within v1 (2 : Int32)) = 0 then
      some ((-1000001 : Int32), h)
    else
      Option.bind (gfr h v0 [10] 3) fun x5 =>
      Option.bind (gfr h v0 [10] 4) fun x7 =>
      Option.bind (gfr h v0 [10] 4) fun x9 =>
      Option.bind (onc h x9 1 (f_B_sinks x9 h)) fun x11 =>
      Option.bind (onc h x5 6 (f_S_minutesToTurn F x5 x7 x11 h)) fun x13 =>
      if v1 = 0 then
        some (x13.1, x13.2)
      else
        Option.bind (gfr x13.2 v0 [10] 3) fun x16 =>
        Option.bind (gfi x13.2 x16 [6] 13) fun x18 =>
        some (x18, x13.2)
set_option maxHeartbeats 4000000 in
set_option maxRecDepth 200000 in
theorem t_C_turned (F : Nat) (v0 : Option Nat) (v1 : Int32) (h : MH) (r : (Int32 × MH)) (hyp : f_C_turned F v0 v1 h = some r) : Mt mi_C_turned 6 [va_rf v0, .int v1] h (some (.int r.1)) r.2 := by
  refine Mt.rt (lv := [(0, va_rf v0), (1, .int v1)]) (by decide +kernel) (by simp [lv_args, mj_rfc, mj_cti, mj_ctl]) (by simp [mj_rfc, mj_cti, mj_ctl]) ?_
  unfold f_C_turned at hyp
  obtain ⟨x1, e2, hyp⟩ := Option.bind_eq_some_iff.mp hyp
  refine rt_st (pc1 := 4) (fun _ _ B => go_aload_n 0 d_C_turned_0 rfl (go_gfi d_C_turned_1 fd_10_8 w283 e2 B)) ?_
  by_cases c3 : x1 = 0
  · replace hyp := (if_pos c3).symm.trans hyp
    refine rt_st (pc1 := 9) (fun _ _ B => go_if_ne_f d_C_turned_4 rfl c3 (go_ldc (v := (-1000002 : Int32)) d_C_turned_7 w552 B)) ?_
    exact rt_eqW Value.int hyp (rt_int d_C_turned_9 rfl)
  · replace hyp := (if_neg c3).symm.trans hyp
    refine rt_st (pc1 := 15) (fun _ _ B => go_if_ne_t 10 d_C_turned_4 rfl c3 (go_iload_n 1 d_C_turned_10 rfl (go_iconst (v := (2 : Int32)) d_C_turned_11 (by decide) (go_callS1 (st := []) [.int v1, .int (2 : Int32)] (t_C_within v1 (2 : Int32) h) mm_C_within (by decide) d_C_turned_12 w313 w314 rfl (Nat.le_of_ble_eq_true rfl) rfl B)))) ?_
    by_cases c4 : (f_C_within v1 (2 : Int32)) = 0
    · replace hyp := (if_pos c4).symm.trans hyp
      refine rt_st (pc1 := 20) (fun _ _ B => go_if_ne_f d_C_turned_15 rfl c4 (go_ldc (v := (-1000001 : Int32)) d_C_turned_18 w316 B)) ?_
      exact rt_eqW Value.int hyp (rt_int d_C_turned_20 rfl)
    · replace hyp := (if_neg c4).symm.trans hyp
      obtain ⟨x5, e6, hyp⟩ := Option.bind_eq_some_iff.mp hyp
      obtain ⟨x7, e8, hyp⟩ := Option.bind_eq_some_iff.mp hyp
      obtain ⟨x9, e10, hyp⟩ := Option.bind_eq_some_iff.mp hyp
      obtain ⟨x11, e12, hyp⟩ := Option.bind_eq_some_iff.mp hyp
      obtain ⟨x13, e14, hyp⟩ := Option.bind_eq_some_iff.mp hyp
      refine rt_st (pc1 := 41) (fun _ _ B => go_if_ne_t 21 d_C_turned_15 rfl c4 (go_aload_n 0 d_C_turned_21 rfl (go_gfr d_C_turned_22 fd_10_3 w278 e6 (go_aload_n 0 d_C_turned_25 rfl (go_gfr d_C_turned_26 fd_10_4 w279 e8 (go_aload_n 0 d_C_turned_29 rfl (go_gfr d_C_turned_30 fd_10_4 w279 e10 (go_callV1 (q := q_1) (st := [va_rf x7, va_rf x5]) [] (t_B_sinks x9 h _ (onc_spec e12).2) mm_B_sinks (by decide) d_C_turned_33 (onc_spec e12).1 rfl rfl w652 w576 w577 rfl (Nat.le_of_ble_eq_true rfl) rfl (go_callV1 (q := q_6) (st := []) [va_rf x7, .int x11] (t_S_minutesToTurn F x5 x7 x11 h _ (onc_spec e14).2) mm_S_minutesToTurn (by decide) d_C_turned_36 (onc_spec e14).1 rfl rfl w763 w764 w765 rfl (Nat.le_of_ble_eq_true rfl) rfl (go_istore_n (lv1 := [(2, .int x13.1), (0, va_rf v0), (1, .int v1)]) d_C_turned_39 (by decide) rfl (go_iload_n 2 d_C_turned_40 rfl B))))))))))) ?_
      by_cases c15 : v1 = 0
      · replace hyp := (if_pos c15).symm.trans hyp
        refine rt_st (pc1 := 55) (fun _ _ B => go_if_ne_f d_C_turned_41 rfl c15 (go_iload_n 0 d_C_turned_44 rfl (go_goto 55 d_C_turned_45 rfl B))) ?_
        exact rt_eqW Value.int hyp (rt_int d_C_turned_55 rfl)
      · replace hyp := (if_neg c15).symm.trans hyp
        obtain ⟨x16, e17, hyp⟩ := Option.bind_eq_some_iff.mp hyp
        obtain ⟨x18, e19, hyp⟩ := Option.bind_eq_some_iff.mp hyp
        refine rt_st (pc1 := 55) (fun _ _ B => go_if_ne_t 48 d_C_turned_41 rfl c15 (go_aload_n 1 d_C_turned_48 rfl (go_gfr d_C_turned_49 fd_10_3 w278 e17 (go_gfi d_C_turned_52 fd_6_13 w175 e19 B)))) ?_
        exact rt_eqW Value.int hyp (rt_int d_C_turned_55 rfl)
/-! WideTurn.inches()I -/
def b_C_inches_12 (F : Nat) : Nat → (Option Nat) → (Int32) → (MH) → (Option (Int32 × MH))
  | 0 => fun _ _ _ => none
  | n + 1 => fun v0 v1 h => 
    if (5 : Int32) < v1 then
      some ((-1000000 : Int32), h)
    else
      Option.bind (gfr h v0 [10] 3) fun x2 =>
      Option.bind (gfr h v0 [10] 4) fun x4 =>
      Option.bind (gfr h v0 [10] 4) fun x6 =>
      Option.bind (onc h x6 1 (f_B_sinks x6 h)) fun x8 =>
      Option.bind (onc h x2 6 (f_S_minutesToTurn F x2 x4 (mj_max (0 : Int32) (x8 - v1)) h)) fun x10 =>
      if x10.1 = (-1000000 : Int32) then
        (b_C_inches_12 F n) v0 (v1 + (1 : Int32)) x10.2
      else
        some (v1, x10.2)
def f_C_inches (F : Nat) (v0 : Option Nat) (h : MH) : Option (Int32 × MH) :=
  Option.bind (gfi h v0 [10] 8) fun x1 =>
  if x1 = 0 then
    some ((-1000002 : Int32), h)
  else
    b_C_inches_12 F F v0 (0 : Int32) h
set_option maxHeartbeats 4000000 in
set_option maxRecDepth 200000 in
theorem p_C_inches_12 (F : Nat) {h0 : MH} : ∀ (n : Nat) (v0 : Option Nat) (v1 : Int32) (h : MH) (r : (Int32 × MH)), b_C_inches_12 F  n v0 v1 h = some r → Rt mi_C_inches 6 h0 12 [(0, va_rf v0), (1, .int v1)] [] h (some (.int r.1)) r.2 := by
  intro n
  induction n with
  | zero =>
    intro v0 v1 h r hyp
    cases hyp
  | succ n ih =>
    intro v0 v1 h r hyp
    unfold b_C_inches_12 at hyp
    refine rt_st (pc1 := 14) (fun _ _ B => go_iload_n 1 d_C_inches_12 rfl (go_iconst (v := (5 : Int32)) d_C_inches_13 (by decide) B)) ?_
    by_cases c1 : (5 : Int32) < v1
    · replace hyp := (if_pos c1).symm.trans hyp
      refine rt_st (pc1 := 56) (fun _ _ B => go_icmp_gt_t 54 d_C_inches_14 rfl c1 (go_ldc (v := (-1000000 : Int32)) d_C_inches_54 w774 B)) ?_
      exact rt_eqW Value.int hyp (rt_int d_C_inches_56 rfl)
    · replace hyp := (if_neg c1).symm.trans hyp
      obtain ⟨x2, e3, hyp⟩ := Option.bind_eq_some_iff.mp hyp
      obtain ⟨x4, e5, hyp⟩ := Option.bind_eq_some_iff.mp hyp
      obtain ⟨x6, e7, hyp⟩ := Option.bind_eq_some_iff.mp hyp
      obtain ⟨x8, e9, hyp⟩ := Option.bind_eq_some_iff.mp hyp
      obtain ⟨x10, e11, hyp⟩ := Option.bind_eq_some_iff.mp hyp
      refine rt_st (pc1 := 43) (fun _ _ B => go_icmp_gt_f d_C_inches_14 rfl c1 (go_aload_n 0 d_C_inches_17 rfl (go_gfr d_C_inches_18 fd_10_3 w278 e3 (go_aload_n 0 d_C_inches_21 rfl (go_gfr d_C_inches_22 fd_10_4 w279 e5 (go_iconst (v := (0 : Int32)) d_C_inches_25 (by decide) (go_aload_n 0 d_C_inches_26 rfl (go_gfr d_C_inches_27 fd_10_4 w279 e7 (go_callV1 (q := q_1) (st := [.int (0 : Int32), va_rf x4, va_rf x2]) [] (t_B_sinks x6 h _ (onc_spec e9).2) mm_B_sinks (by decide) d_C_inches_30 (onc_spec e9).1 rfl rfl w652 w576 w577 rfl (Nat.le_of_ble_eq_true rfl) rfl (go_iload_n 1 d_C_inches_33 rfl (go_isub d_C_inches_34 (go_mmax (st := [va_rf x4, va_rf x2]) (by decide) (Nat.le_of_ble_eq_true rfl) d_C_inches_35 w773 (go_callV1 (q := q_6) (st := []) [va_rf x4, .int (mj_max (0 : Int32) (x8 - v1))] (t_S_minutesToTurn F x2 x4 (mj_max (0 : Int32) (x8 - v1)) h _ (onc_spec e11).2) mm_S_minutesToTurn (by decide) d_C_inches_38 (onc_spec e11).1 rfl rfl w763 w764 w765 rfl (Nat.le_of_ble_eq_true rfl) rfl (go_ldc (v := (-1000000 : Int32)) d_C_inches_41 w774 B)))))))))))))) ?_
      by_cases c12 : x10.1 = (-1000000 : Int32)
      · replace hyp := (if_pos c12).symm.trans hyp
        refine rt_st (pc1 := 12) (fun _ _ B => go_icmp_eq_t 48 d_C_inches_43 rfl c12 (go_iinc (v := (v1 + (1 : Int32))) (lv1 := [(1, .int (v1 + (1 : Int32))), (0, va_rf v0)]) 1 d_C_inches_48 rfl rfl (by decide) (by first | (simp [mj_s1, mj_s2, mj_rfc, mj_cti, mj_ctl]; done) | (simp [mj_s1, mj_s2, mj_rfc, mj_cti, mj_ctl]; decide)) (go_goto 12 d_C_inches_51 rfl B))) ?_
        refine rt_sub [1, 0] (lv1 := [(0, va_rf v0), (1, .int (v1 + (1 : Int32)))]) rfl ?_
        exact ih _ _ _ _ hyp
      · replace hyp := (if_neg c12).symm.trans hyp
        refine rt_st (pc1 := 47) (fun _ _ B => go_icmp_eq_f d_C_inches_43 rfl c12 (go_iload_n 1 d_C_inches_46 rfl B)) ?_
        exact rt_eqW Value.int hyp (rt_int d_C_inches_47 rfl)
set_option maxHeartbeats 4000000 in
set_option maxRecDepth 200000 in
theorem t_C_inches (F : Nat) (v0 : Option Nat) (h : MH) (r : (Int32 × MH)) (hyp : f_C_inches F v0 h = some r) : Mt mi_C_inches 6 [va_rf v0] h (some (.int r.1)) r.2 := by
  refine Mt.rt (lv := [(0, va_rf v0)]) (by decide +kernel) (by simp [lv_args, mj_rfc, mj_cti, mj_ctl]) (by simp [mj_rfc, mj_cti, mj_ctl]) ?_
  unfold f_C_inches at hyp
  obtain ⟨x1, e2, hyp⟩ := Option.bind_eq_some_iff.mp hyp
  refine rt_st (pc1 := 4) (fun _ _ B => go_aload_n 0 d_C_inches_0 rfl (go_gfi d_C_inches_1 fd_10_8 w283 e2 B)) ?_
  by_cases c3 : x1 = 0
  · replace hyp := (if_pos c3).symm.trans hyp
    refine rt_st (pc1 := 9) (fun _ _ B => go_if_ne_f d_C_inches_4 rfl c3 (go_ldc (v := (-1000002 : Int32)) d_C_inches_7 w552 B)) ?_
    exact rt_eqW Value.int hyp (rt_int d_C_inches_9 rfl)
  · replace hyp := (if_neg c3).symm.trans hyp
    refine rt_st (pc1 := 12) (fun _ _ B => go_if_ne_t 10 d_C_inches_4 rfl c3 (go_iconst (v := (0 : Int32)) d_C_inches_10 (by decide) (go_istore_n (lv1 := [(1, .int (0 : Int32)), (0, va_rf v0)]) d_C_inches_11 (by decide) (by first | (simp [mj_s1, mj_s2, mj_rfc, mj_cti, mj_ctl]; done) | (simp [mj_s1, mj_s2, mj_rfc, mj_cti, mj_ctl]; decide)) B))) ?_
    refine rt_sub [1, 0] (lv1 := [(0, va_rf v0), (1, .int (0 : Int32))]) rfl ?_
    exact p_C_inches_12 F F _ _ _ r hyp
/-! WideTurn.easiestCell(ZI)I -/
def b_C_easiestCell_135 (F : Nat) (k10 : (Option Nat) → Int32 → Int32 → Int32 → Int32 → Int32 → MH → (Option (Int32 × MH))) : (Option Nat) → (Int32) → (Int32) → (Int32) → (Int32) → (Int32) → (MH) → (Option (Int32 × MH)) := fun v0 v1 v2 v3 v4 v5 h => 
  k10 v0 v1 v2 v3 v4 (v5 + (1 : Int32)) h
def b_C_easiestCell_128 (F : Nat) (k10 : (Option Nat) → Int32 → Int32 → Int32 → Int32 → Int32 → MH → (Option (Int32 × MH))) : (Option Nat) → (Int32) → (Int32) → (Int32) → (Int32) → (MH) → (Option (Int32 × MH)) := fun v0 v1 v2 v5 v6 h => 
  b_C_easiestCell_135 F k10 v0 v1 v2 v5 v6 v5 h
def b_C_easiestCell_87 (F : Nat) (k10 : (Option Nat) → Int32 → Int32 → Int32 → Int32 → Int32 → MH → (Option (Int32 × MH))) : (Option Nat) → (Int32) → (Int32) → (Int32) → (Int32) → (Int32) → (MH) → (Option (Int32 × MH)) := fun v0 v1 v2 v3 v4 v5 h => 
  Option.bind (gfr h v0 [10] 3) fun x1 =>
  Option.bind (gfr h v0 [10] 5) fun x3 =>
  Option.bind (gfr h v0 [10] 5) fun x5 =>
  Option.bind (onc h x5 1 (f_B_sinks x5 h)) fun x7 =>
  Option.bind (onc h x1 6 (f_S_minutesToTurn F x1 x3 x7 h)) fun x9 =>
  if x9.1 = (-1000000 : Int32) then
    b_C_easiestCell_135 F k10 v0 v1 v2 v3 v4 v5 x9.2
  else
    if v4 = (-1000000 : Int32) then
      b_C_easiestCell_128 F k10 v0 v1 v2 v5 x9.1 x9.2
    else
      if v4 ≤ x9.1 then
        b_C_easiestCell_135 F k10 v0 v1 v2 v3 v4 v5 x9.2
      else
        b_C_easiestCell_128 F k10 v0 v1 v2 v5 x9.1 x9.2
def b_C_easiestCell_39 (F : Nat) (k10 : (Option Nat) → Int32 → Int32 → Int32 → Int32 → Int32 → MH → (Option (Int32 × MH))) : (Option Nat) → (Int32) → (Int32) → (Int32) → (Int32) → (Int32) → (MH) → (Option (Int32 × MH)) := fun v0 v1 v2 v3 v4 v5 h => 
  Option.bind (gfr h v0 [10] 5) fun x1 =>
  Option.bind (gfr h v0 [10] 4) fun x3 =>
  Option.bind (onc h x1 1 (f_B_become F x1 x3 h)) fun h5 =>
  if v1 = 0 then
    Option.bind (gfr h5 v0 [10] 5) fun x8 =>
    Option.bind (gfi h5 x8 [1] 7) fun x10 =>
    Option.bind (pfv h5 x8 [1] 7 (.int (x10 ^^^ ((1 : Int32) <<< (v5 &&& 31))))) fun h12 =>
    b_C_easiestCell_87 F k10 v0 v1 v2 v3 v4 v5 h12
  else
    Option.bind (gfr h5 v0 [10] 5) fun x14 =>
    Option.bind (gfr h5 x14 [1] 9) fun x16 =>
    Option.bind (f_C_put x16 v5 (9 : Int32) h5) fun h18 =>
    b_C_easiestCell_87 F k10 v0 v1 v2 v3 v4 v5 h18
def b_C_easiestCell_10 (F : Nat) : Nat → (Option Nat) → (Int32) → (Int32) → (Int32) → (Int32) → (Int32) → (MH) → (Option (Int32 × MH))
  | 0 => fun _ _ _ _ _ _ _ => none
  | n + 1 => fun v0 v1 v2 v3 v4 v5 h => 
    if (24 : Int32) ≤ v5 then
      if v2 = 0 then
        some (v3, h)
      else
        some (v4, h)
    else
      if v1 = 0 then
        Option.bind (gfr h v0 [10] 4) fun x4 =>
        Option.bind (gfi h x4 [1] 7) fun x6 =>
        if (f_C_bit x6 v5) = 0 then
          b_C_easiestCell_135 F (b_C_easiestCell_10 F n) v0 v1 v2 v3 v4 v5 h
        else
          b_C_easiestCell_39 F (b_C_easiestCell_10 F n) v0 v1 v2 v3 v4 v5 h
      else
        b_C_easiestCell_39 F (b_C_easiestCell_10 F n) v0 v1 v2 v3 v4 v5 h
def f_C_easiestCell (F : Nat) (v0 : Option Nat) (v1 : Int32) (v2 : Int32) (h : MH) : Option (Int32 × MH) :=
  b_C_easiestCell_10 F F v0 v1 v2 (-1000000 : Int32) (-1000000 : Int32) (0 : Int32) h
set_option maxHeartbeats 4000000 in
set_option maxRecDepth 200000 in
theorem p_C_easiestCell_135 (F : Nat) {h0 : MH} (k10 : (Option Nat) → Int32 → Int32 → Int32 → Int32 → Int32 → MH → (Option (Int32 × MH))) (hk10 : ∀ (v0 : Option Nat) (v1 : Int32) (v2 : Int32) (v3 : Int32) (v4 : Int32) (v5 : Int32) (h : MH) (r : (Int32 × MH)), k10 v0 v1 v2 v3 v4 v5 h = some r → Rt mi_C_easiestCell 6 h0 10 [(0, va_rf v0), (1, .int v1), (2, .int v2), (3, .int v3), (4, .int v4), (5, .int v5)] [] h (some (.int r.1)) r.2) (v0 : Option Nat) (v1 : Int32) (v2 : Int32) (v3 : Int32) (v4 : Int32) (v5 : Int32) (h : MH) (r : (Int32 × MH)) : b_C_easiestCell_135 F k10  v0 v1 v2 v3 v4 v5 h = some r → Rt mi_C_easiestCell 6 h0 135 [(0, va_rf v0), (1, .int v1), (2, .int v2), (3, .int v3), (4, .int v4), (5, .int v5)] [] h (some (.int r.1)) r.2 := by
  intro hyp
  unfold b_C_easiestCell_135 at hyp
  refine rt_st (pc1 := 10) (fun _ _ B => go_iinc (v := (v5 + (1 : Int32))) (lv1 := [(5, .int (v5 + (1 : Int32))), (0, va_rf v0), (1, .int v1), (2, .int v2), (3, .int v3), (4, .int v4)]) 5 d_C_easiestCell_135 rfl rfl (by decide) rfl (go_goto 10 d_C_easiestCell_138 rfl B)) ?_
  refine rt_sub [1, 2, 3, 4, 5, 0] (lv1 := [(0, va_rf v0), (1, .int v1), (2, .int v2), (3, .int v3), (4, .int v4), (5, .int (v5 + (1 : Int32)))]) rfl ?_
  exact hk10 _ _ _ _ _ _ _ _ hyp
set_option maxHeartbeats 4000000 in
set_option maxRecDepth 200000 in
theorem p_C_easiestCell_128 (F : Nat) {h0 : MH} (k10 : (Option Nat) → Int32 → Int32 → Int32 → Int32 → Int32 → MH → (Option (Int32 × MH))) (hk10 : ∀ (v0 : Option Nat) (v1 : Int32) (v2 : Int32) (v3 : Int32) (v4 : Int32) (v5 : Int32) (h : MH) (r : (Int32 × MH)), k10 v0 v1 v2 v3 v4 v5 h = some r → Rt mi_C_easiestCell 6 h0 10 [(0, va_rf v0), (1, .int v1), (2, .int v2), (3, .int v3), (4, .int v4), (5, .int v5)] [] h (some (.int r.1)) r.2) (v0 : Option Nat) (v1 : Int32) (v2 : Int32) (v5 : Int32) (v6 : Int32) (h : MH) (r : (Int32 × MH)) : b_C_easiestCell_128 F k10  v0 v1 v2 v5 v6 h = some r → Rt mi_C_easiestCell 6 h0 128 [(0, va_rf v0), (1, .int v1), (2, .int v2), (5, .int v5), (6, .int v6)] [] h (some (.int r.1)) r.2 := by
  intro hyp
  unfold b_C_easiestCell_128 at hyp
  refine rt_st (pc1 := 135) (fun _ _ B => go_iload 4 d_C_easiestCell_128 rfl (go_istore (lv1 := [(4, .int v6), (0, va_rf v0), (1, .int v1), (2, .int v2), (5, .int v5), (6, .int v6)]) d_C_easiestCell_130 (by decide) rfl (go_iload 4 d_C_easiestCell_132 rfl (go_istore_n (lv1 := [(3, .int v5), (4, .int v6), (0, va_rf v0), (1, .int v1), (2, .int v2), (5, .int v5), (6, .int v6)]) d_C_easiestCell_134 (by decide) rfl B)))) ?_
  refine rt_sub [2, 3, 4, 0, 1, 5] (lv1 := [(0, va_rf v0), (1, .int v1), (2, .int v2), (3, .int v5), (4, .int v6), (5, .int v5)]) rfl ?_
  exact p_C_easiestCell_135 F k10 hk10 _ _ _ _ _ _ _ r hyp
set_option maxHeartbeats 4000000 in
set_option maxRecDepth 200000 in
theorem p_C_easiestCell_87 (F : Nat) {h0 : MH} (k10 : (Option Nat) → Int32 → Int32 → Int32 → Int32 → Int32 → MH → (Option (Int32 × MH))) (hk10 : ∀ (v0 : Option Nat) (v1 : Int32) (v2 : Int32) (v3 : Int32) (v4 : Int32) (v5 : Int32) (h : MH) (r : (Int32 × MH)), k10 v0 v1 v2 v3 v4 v5 h = some r → Rt mi_C_easiestCell 6 h0 10 [(0, va_rf v0), (1, .int v1), (2, .int v2), (3, .int v3), (4, .int v4), (5, .int v5)] [] h (some (.int r.1)) r.2) (v0 : Option Nat) (v1 : Int32) (v2 : Int32) (v3 : Int32) (v4 : Int32) (v5 : Int32) (h : MH) (r : (Int32 × MH)) : b_C_easiestCell_87 F k10  v0 v1 v2 v3 v4 v5 h = some r → Rt mi_C_easiestCell 6 h0 87 [(0, va_rf v0), (1, .int v1), (2, .int v2), (3, .int v3), (4, .int v4), (5, .int v5)] [] h (some (.int r.1)) r.2 := by
  intro hyp
  unfold b_C_easiestCell_87 at hyp
  obtain ⟨x1, e2, hyp⟩ := Option.bind_eq_some_iff.mp hyp
  obtain ⟨x3, e4, hyp⟩ := Option.bind_eq_some_iff.mp hyp
  obtain ⟨x5, e6, hyp⟩ := Option.bind_eq_some_iff.mp hyp
  obtain ⟨x7, e8, hyp⟩ := Option.bind_eq_some_iff.mp hyp
  obtain ⟨x9, e10, hyp⟩ := Option.bind_eq_some_iff.mp hyp
  refine rt_st (pc1 := 111) (fun _ _ B => go_aload_n 0 d_C_easiestCell_87 rfl (go_gfr d_C_easiestCell_88 fd_10_3 w278 e2 (go_aload_n 0 d_C_easiestCell_91 rfl (go_gfr d_C_easiestCell_92 fd_10_5 w280 e4 (go_aload_n 0 d_C_easiestCell_95 rfl (go_gfr d_C_easiestCell_96 fd_10_5 w280 e6 (go_callV1 (q := q_1) (st := [va_rf x3, va_rf x1]) [] (t_B_sinks x5 h _ (onc_spec e8).2) mm_B_sinks (by decide) d_C_easiestCell_99 (onc_spec e8).1 rfl rfl w652 w576 w577 rfl (Nat.le_of_ble_eq_true rfl) rfl (go_callV1 (q := q_6) (st := []) [va_rf x3, .int x7] (t_S_minutesToTurn F x1 x3 x7 h _ (onc_spec e10).2) mm_S_minutesToTurn (by decide) d_C_easiestCell_102 (onc_spec e10).1 rfl rfl w763 w764 w765 rfl (Nat.le_of_ble_eq_true rfl) rfl (go_istore (lv1 := [(6, .int x9.1), (0, va_rf v0), (1, .int v1), (2, .int v2), (3, .int v3), (4, .int v4), (5, .int v5)]) d_C_easiestCell_105 (by decide) rfl (go_iload 0 d_C_easiestCell_107 rfl (go_ldc (v := (-1000000 : Int32)) d_C_easiestCell_109 w774 B))))))))))) ?_
  by_cases c11 : x9.1 = (-1000000 : Int32)
  · replace hyp := (if_pos c11).symm.trans hyp
    refine rt_st (pc1 := 135) (fun _ _ B => go_icmp_eq_t 135 d_C_easiestCell_111 rfl c11 B) ?_
    refine rt_sub [1, 2, 3, 4, 5, 6] (lv1 := [(0, va_rf v0), (1, .int v1), (2, .int v2), (3, .int v3), (4, .int v4), (5, .int v5)]) rfl ?_
    exact p_C_easiestCell_135 F k10 hk10 _ _ _ _ _ _ _ r hyp
  · replace hyp := (if_neg c11).symm.trans hyp
    refine rt_st (pc1 := 118) (fun _ _ B => go_icmp_eq_f d_C_easiestCell_111 rfl c11 (go_iload 5 d_C_easiestCell_114 rfl (go_ldc (v := (-1000000 : Int32)) d_C_easiestCell_116 w774 B))) ?_
    by_cases c12 : v4 = (-1000000 : Int32)
    · replace hyp := (if_pos c12).symm.trans hyp
      refine rt_st (pc1 := 128) (fun _ _ B => go_icmp_eq_t 128 d_C_easiestCell_118 rfl c12 B) ?_
      refine rt_sub [1, 2, 3, 6, 0] (lv1 := [(0, va_rf v0), (1, .int v1), (2, .int v2), (5, .int v5), (6, .int x9.1)]) rfl ?_
      exact p_C_easiestCell_128 F k10 hk10 _ _ _ _ _ _ r hyp
    · replace hyp := (if_neg c12).symm.trans hyp
      refine rt_st (pc1 := 125) (fun _ _ B => go_icmp_eq_f d_C_easiestCell_118 rfl c12 (go_iload 0 d_C_easiestCell_121 rfl (go_iload 5 d_C_easiestCell_123 rfl B))) ?_
      by_cases c13 : v4 ≤ x9.1
      · replace hyp := (if_pos c13).symm.trans hyp
        refine rt_st (pc1 := 135) (fun _ _ B => go_icmp_ge_t 135 d_C_easiestCell_125 rfl c13 B) ?_
        refine rt_sub [1, 2, 3, 4, 5, 6] (lv1 := [(0, va_rf v0), (1, .int v1), (2, .int v2), (3, .int v3), (4, .int v4), (5, .int v5)]) rfl ?_
        exact p_C_easiestCell_135 F k10 hk10 _ _ _ _ _ _ _ r hyp
      · replace hyp := (if_neg c13).symm.trans hyp
        refine rt_st (pc1 := 128) (fun _ _ B => go_icmp_ge_f d_C_easiestCell_125 rfl c13 B) ?_
        refine rt_sub [1, 2, 3, 6, 0] (lv1 := [(0, va_rf v0), (1, .int v1), (2, .int v2), (5, .int v5), (6, .int x9.1)]) rfl ?_
        exact p_C_easiestCell_128 F k10 hk10 _ _ _ _ _ _ r hyp
set_option maxHeartbeats 4000000 in
set_option maxRecDepth 200000 in
theorem p_C_easiestCell_39 (F : Nat) {h0 : MH} (k10 : (Option Nat) → Int32 → Int32 → Int32 → Int32 → Int32 → MH → (Option (Int32 × MH))) (hk10 : ∀ (v0 : Option Nat) (v1 : Int32) (v2 : Int32) (v3 : Int32) (v4 : Int32) (v5 : Int32) (h : MH) (r : (Int32 × MH)), k10 v0 v1 v2 v3 v4 v5 h = some r → Rt mi_C_easiestCell 6 h0 10 [(0, va_rf v0), (1, .int v1), (2, .int v2), (3, .int v3), (4, .int v4), (5, .int v5)] [] h (some (.int r.1)) r.2) (v0 : Option Nat) (v1 : Int32) (v2 : Int32) (v3 : Int32) (v4 : Int32) (v5 : Int32) (h : MH) (r : (Int32 × MH)) : b_C_easiestCell_39 F k10  v0 v1 v2 v3 v4 v5 h = some r → Rt mi_C_easiestCell 6 h0 39 [(0, va_rf v0), (1, .int v1), (2, .int v2), (3, .int v3), (4, .int v4), (5, .int v5)] [] h (some (.int r.1)) r.2 := by
  intro hyp
  unfold b_C_easiestCell_39 at hyp
  obtain ⟨x1, e2, hyp⟩ := Option.bind_eq_some_iff.mp hyp
  obtain ⟨x3, e4, hyp⟩ := Option.bind_eq_some_iff.mp hyp
  obtain ⟨h5, e6, hyp⟩ := Option.bind_eq_some_iff.mp hyp
  refine rt_st (pc1 := 51) (fun _ _ B => go_aload_n 0 d_C_easiestCell_39 rfl (go_gfr d_C_easiestCell_40 fd_10_5 w280 e2 (go_aload_n 0 d_C_easiestCell_43 rfl (go_gfr d_C_easiestCell_44 fd_10_4 w279 e4 (go_callV0 (q := q_1) (st := []) [va_rf x3] (t_B_become F x1 x3 h _ (onc_spec e6).2) mm_B_become (by decide) d_C_easiestCell_47 (onc_spec e6).1 rfl rfl w526 w527 w528 rfl (Nat.le_of_ble_eq_true rfl) rfl (go_iload_n 1 d_C_easiestCell_50 rfl B)))))) ?_
  by_cases c7 : v1 = 0
  · replace hyp := (if_pos c7).symm.trans hyp
    obtain ⟨x8, e9, hyp⟩ := Option.bind_eq_some_iff.mp hyp
    obtain ⟨x10, e11, hyp⟩ := Option.bind_eq_some_iff.mp hyp
    obtain ⟨h12, e13, hyp⟩ := Option.bind_eq_some_iff.mp hyp
    refine rt_st (pc1 := 87) (fun _ _ B => go_if_eq_t 71 d_C_easiestCell_51 rfl c7 (go_aload_n 0 d_C_easiestCell_71 rfl (go_gfr d_C_easiestCell_72 fd_10_5 w280 e9 (go_dup d_C_easiestCell_75 (mj_rfc _) (go_gfi d_C_easiestCell_76 fd_1_7 w242 e11 (go_iconst (v := (1 : Int32)) d_C_easiestCell_79 (by decide) (go_iload 5 d_C_easiestCell_80 rfl (go_ishl d_C_easiestCell_82 (go_ixor d_C_easiestCell_83 (go_pfi d_C_easiestCell_84 fd_1_7 w242 (fun q => by cases q) e13 B)))))))))) ?_
    exact p_C_easiestCell_87 F k10 hk10 _ _ _ _ _ _ _ r hyp
  · replace hyp := (if_neg c7).symm.trans hyp
    obtain ⟨x14, e15, hyp⟩ := Option.bind_eq_some_iff.mp hyp
    obtain ⟨x16, e17, hyp⟩ := Option.bind_eq_some_iff.mp hyp
    obtain ⟨h18, e19, hyp⟩ := Option.bind_eq_some_iff.mp hyp
    refine rt_st (pc1 := 87) (fun _ _ B => go_if_eq_f d_C_easiestCell_51 rfl c7 (go_aload_n 0 d_C_easiestCell_54 rfl (go_gfr d_C_easiestCell_55 fd_10_5 w280 e15 (go_gfr d_C_easiestCell_58 fd_1_9 w249 e17 (go_iload 5 d_C_easiestCell_61 rfl (go_bipush (v := (9 : Int32)) d_C_easiestCell_63 (by decide) (go_callS0 (st := []) [va_rf x16, .int v5, .int (9 : Int32)] (t_C_put x16 v5 (9 : Int32) h5 _ e19) mm_C_put (by decide) d_C_easiestCell_65 w783 w327 rfl (Nat.le_of_ble_eq_true rfl) rfl (go_goto 87 d_C_easiestCell_68 rfl B)))))))) ?_
    exact p_C_easiestCell_87 F k10 hk10 _ _ _ _ _ _ _ r hyp
set_option maxHeartbeats 4000000 in
set_option maxRecDepth 200000 in
theorem p_C_easiestCell_10 (F : Nat) {h0 : MH} : ∀ (n : Nat) (v0 : Option Nat) (v1 : Int32) (v2 : Int32) (v3 : Int32) (v4 : Int32) (v5 : Int32) (h : MH) (r : (Int32 × MH)), b_C_easiestCell_10 F  n v0 v1 v2 v3 v4 v5 h = some r → Rt mi_C_easiestCell 6 h0 10 [(0, va_rf v0), (1, .int v1), (2, .int v2), (3, .int v3), (4, .int v4), (5, .int v5)] [] h (some (.int r.1)) r.2 := by
  intro n
  induction n with
  | zero =>
    intro v0 v1 v2 v3 v4 v5 h r hyp
    cases hyp
  | succ n ih =>
    intro v0 v1 v2 v3 v4 v5 h r hyp
    unfold b_C_easiestCell_10 at hyp
    refine rt_st (pc1 := 14) (fun _ _ B => go_iload 5 d_C_easiestCell_10 rfl (go_bipush (v := (24 : Int32)) d_C_easiestCell_12 (by decide) B)) ?_
    by_cases c1 : (24 : Int32) ≤ v5
    · replace hyp := (if_pos c1).symm.trans hyp
      refine rt_st (pc1 := 142) (fun _ _ B => go_icmp_ge_t 141 d_C_easiestCell_14 rfl c1 (go_iload_n 2 d_C_easiestCell_141 rfl B)) ?_
      by_cases c2 : v2 = 0
      · replace hyp := (if_pos c2).symm.trans hyp
        refine rt_st (pc1 := 151) (fun _ _ B => go_if_ne_f d_C_easiestCell_142 rfl c2 (go_iload_n 3 d_C_easiestCell_145 rfl (go_goto 151 d_C_easiestCell_146 rfl B))) ?_
        exact rt_eqW Value.int hyp (rt_int d_C_easiestCell_151 rfl)
      · replace hyp := (if_neg c2).symm.trans hyp
        refine rt_st (pc1 := 151) (fun _ _ B => go_if_ne_t 149 d_C_easiestCell_142 rfl c2 (go_iload 4 d_C_easiestCell_149 rfl B)) ?_
        exact rt_eqW Value.int hyp (rt_int d_C_easiestCell_151 rfl)
    · replace hyp := (if_neg c1).symm.trans hyp
      refine rt_st (pc1 := 18) (fun _ _ B => go_icmp_ge_f d_C_easiestCell_14 rfl c1 (go_iload_n 1 d_C_easiestCell_17 rfl B)) ?_
      by_cases c3 : v1 = 0
      · replace hyp := (if_pos c3).symm.trans hyp
        obtain ⟨x4, e5, hyp⟩ := Option.bind_eq_some_iff.mp hyp
        obtain ⟨x6, e7, hyp⟩ := Option.bind_eq_some_iff.mp hyp
        refine rt_st (pc1 := 33) (fun _ _ B => go_if_ne_f d_C_easiestCell_18 rfl c3 (go_aload_n 0 d_C_easiestCell_21 rfl (go_gfr d_C_easiestCell_22 fd_10_4 w279 e5 (go_gfi d_C_easiestCell_25 fd_1_7 w242 e7 (go_iload 5 d_C_easiestCell_28 rfl (go_callS1 (st := []) [.int x6, .int v5] (t_C_bit x6 v5 h) mm_C_bit (by decide) d_C_easiestCell_30 w657 w445 rfl (Nat.le_of_ble_eq_true rfl) rfl B)))))) ?_
        by_cases c8 : (f_C_bit x6 v5) = 0
        · replace hyp := (if_pos c8).symm.trans hyp
          refine rt_st (pc1 := 135) (fun _ _ B => go_if_ne_f d_C_easiestCell_33 rfl c8 (go_goto 135 d_C_easiestCell_36 rfl B)) ?_
          exact p_C_easiestCell_135 F (b_C_easiestCell_10 F n) (fun a0 a1 a2 a3 a4 a5 a6 r hyp => ih a0 a1 a2 a3 a4 a5 a6 r hyp) _ _ _ _ _ _ _ r hyp
        · replace hyp := (if_neg c8).symm.trans hyp
          refine rt_st (pc1 := 39) (fun _ _ B => go_if_ne_t 39 d_C_easiestCell_33 rfl c8 B) ?_
          exact p_C_easiestCell_39 F (b_C_easiestCell_10 F n) (fun a0 a1 a2 a3 a4 a5 a6 r hyp => ih a0 a1 a2 a3 a4 a5 a6 r hyp) _ _ _ _ _ _ _ r hyp
      · replace hyp := (if_neg c3).symm.trans hyp
        refine rt_st (pc1 := 39) (fun _ _ B => go_if_ne_t 39 d_C_easiestCell_18 rfl c3 B) ?_
        exact p_C_easiestCell_39 F (b_C_easiestCell_10 F n) (fun a0 a1 a2 a3 a4 a5 a6 r hyp => ih a0 a1 a2 a3 a4 a5 a6 r hyp) _ _ _ _ _ _ _ r hyp
set_option maxHeartbeats 4000000 in
set_option maxRecDepth 200000 in
theorem t_C_easiestCell (F : Nat) (v0 : Option Nat) (v1 : Int32) (v2 : Int32) (h : MH) (r : (Int32 × MH)) (hyp : f_C_easiestCell F v0 v1 v2 h = some r) : Mt mi_C_easiestCell 6 [va_rf v0, .int v1, .int v2] h (some (.int r.1)) r.2 := by
  refine Mt.rt (lv := [(0, va_rf v0), (1, .int v1), (2, .int v2)]) (by decide +kernel) (by simp [lv_args, mj_rfc, mj_cti, mj_ctl]) (by simp [mj_rfc, mj_cti, mj_ctl]) ?_
  unfold f_C_easiestCell at hyp
  refine rt_st (pc1 := 10) (fun _ _ B => go_ldc (v := (-1000000 : Int32)) d_C_easiestCell_0 w774 (go_istore_n (lv1 := [(3, .int (-1000000 : Int32)), (0, va_rf v0), (1, .int v1), (2, .int v2)]) d_C_easiestCell_2 (by decide) rfl (go_ldc (v := (-1000000 : Int32)) d_C_easiestCell_3 w774 (go_istore (lv1 := [(4, .int (-1000000 : Int32)), (3, .int (-1000000 : Int32)), (0, va_rf v0), (1, .int v1), (2, .int v2)]) d_C_easiestCell_5 (by decide) rfl (go_iconst (v := (0 : Int32)) d_C_easiestCell_7 (by decide) (go_istore (lv1 := [(5, .int (0 : Int32)), (4, .int (-1000000 : Int32)), (3, .int (-1000000 : Int32)), (0, va_rf v0), (1, .int v1), (2, .int v2)]) d_C_easiestCell_8 (by decide) rfl B)))))) ?_
  refine rt_sub [3, 4, 5, 2, 1, 0] (lv1 := [(0, va_rf v0), (1, .int v1), (2, .int v2), (3, .int (-1000000 : Int32)), (4, .int (-1000000 : Int32)), (5, .int (0 : Int32))]) rfl ?_
  exact p_C_easiestCell_10 F F _ _ _ _ _ _ _ r hyp
/-! WideTurn.inTheWay(I)I -/
def f_C_inTheWay (F : Nat) (v0 : Option Nat) (v1 : Int32) (h : MH) : Option (Int32 × MH) :=
  Option.bind (gfi h v0 [10] 8) fun x1 =>
  if x1 = 0 then
    some ((-1000002 : Int32), h)
  else
    if (f_C_within v1 (2 : Int32)) = 0 then
      some ((-1000001 : Int32), h)
    else
      Option.bind (onc h v0 10 (f_C_easiestCell F v0 (0 : Int32) v1 h)) fun x5 =>
      some (x5.1, x5.2)
set_option maxHeartbeats 4000000 in
set_option maxRecDepth 200000 in
theorem t_C_inTheWay (F : Nat) (v0 : Option Nat) (v1 : Int32) (h : MH) (r : (Int32 × MH)) (hyp : f_C_inTheWay F v0 v1 h = some r) : Mt mi_C_inTheWay 7 [va_rf v0, .int v1] h (some (.int r.1)) r.2 := by
  refine Mt.rt (lv := [(0, va_rf v0), (1, .int v1)]) (by decide +kernel) (by simp [lv_args, mj_rfc, mj_cti, mj_ctl]) (by simp [mj_rfc, mj_cti, mj_ctl]) ?_
  unfold f_C_inTheWay at hyp
  obtain ⟨x1, e2, hyp⟩ := Option.bind_eq_some_iff.mp hyp
  refine rt_st (pc1 := 4) (fun _ _ B => go_aload_n 0 d_C_inTheWay_0 rfl (go_gfi d_C_inTheWay_1 fd_10_8 w283 e2 B)) ?_
  by_cases c3 : x1 = 0
  · replace hyp := (if_pos c3).symm.trans hyp
    refine rt_st (pc1 := 9) (fun _ _ B => go_if_ne_f d_C_inTheWay_4 rfl c3 (go_ldc (v := (-1000002 : Int32)) d_C_inTheWay_7 w552 B)) ?_
    exact rt_eqW Value.int hyp (rt_int d_C_inTheWay_9 rfl)
  · replace hyp := (if_neg c3).symm.trans hyp
    refine rt_st (pc1 := 15) (fun _ _ B => go_if_ne_t 10 d_C_inTheWay_4 rfl c3 (go_iload_n 1 d_C_inTheWay_10 rfl (go_iconst (v := (2 : Int32)) d_C_inTheWay_11 (by decide) (go_callS1 (st := []) [.int v1, .int (2 : Int32)] (t_C_within v1 (2 : Int32) h) mm_C_within (by decide) d_C_inTheWay_12 w313 w314 rfl (Nat.le_of_ble_eq_true rfl) rfl B)))) ?_
    by_cases c4 : (f_C_within v1 (2 : Int32)) = 0
    · replace hyp := (if_pos c4).symm.trans hyp
      refine rt_st (pc1 := 29) (fun _ _ B => go_if_eq_t 27 d_C_inTheWay_15 rfl c4 (go_ldc (v := (-1000001 : Int32)) d_C_inTheWay_27 w316 B)) ?_
      exact rt_eqW Value.int hyp (rt_int d_C_inTheWay_29 rfl)
    · replace hyp := (if_neg c4).symm.trans hyp
      obtain ⟨x5, e6, hyp⟩ := Option.bind_eq_some_iff.mp hyp
      refine rt_st (pc1 := 29) (fun _ _ B => go_if_eq_f d_C_inTheWay_15 rfl c4 (go_aload_n 0 d_C_inTheWay_18 rfl (go_iconst (v := (0 : Int32)) d_C_inTheWay_19 (by decide) (go_iload_n 1 d_C_inTheWay_20 rfl (go_callV1 (q := q_10) (st := []) [.int (0 : Int32), .int v1] (t_C_easiestCell F v0 (0 : Int32) v1 h _ (onc_spec e6).2) mm_C_easiestCell (by decide) d_C_inTheWay_21 (onc_spec e6).1 rfl rfl w779 w781 w21 rfl (Nat.le_of_ble_eq_true rfl) rfl (go_goto 29 d_C_inTheWay_24 rfl B)))))) ?_
      exact rt_eqW Value.int hyp (rt_int d_C_inTheWay_29 rfl)
/-! WideTurn.dig(I)I -/
def f_C_dig (F : Nat) (v0 : Option Nat) (v1 : Int32) (h : MH) : Option (Int32 × MH) :=
  Option.bind (gfi h v0 [10] 8) fun x1 =>
  if x1 = 0 then
    some ((-1000002 : Int32), h)
  else
    if (f_C_within v1 (2 : Int32)) = 0 then
      some ((-1000001 : Int32), h)
    else
      Option.bind (onc h v0 10 (f_C_easiestCell F v0 (1 : Int32) v1 h)) fun x5 =>
      some (x5.1, x5.2)
set_option maxHeartbeats 4000000 in
set_option maxRecDepth 200000 in
theorem t_C_dig (F : Nat) (v0 : Option Nat) (v1 : Int32) (h : MH) (r : (Int32 × MH)) (hyp : f_C_dig F v0 v1 h = some r) : Mt mi_C_dig 7 [va_rf v0, .int v1] h (some (.int r.1)) r.2 := by
  refine Mt.rt (lv := [(0, va_rf v0), (1, .int v1)]) (by decide +kernel) (by simp [lv_args, mj_rfc, mj_cti, mj_ctl]) (by simp [mj_rfc, mj_cti, mj_ctl]) ?_
  unfold f_C_dig at hyp
  obtain ⟨x1, e2, hyp⟩ := Option.bind_eq_some_iff.mp hyp
  refine rt_st (pc1 := 4) (fun _ _ B => go_aload_n 0 d_C_dig_0 rfl (go_gfi d_C_dig_1 fd_10_8 w283 e2 B)) ?_
  by_cases c3 : x1 = 0
  · replace hyp := (if_pos c3).symm.trans hyp
    refine rt_st (pc1 := 9) (fun _ _ B => go_if_ne_f d_C_dig_4 rfl c3 (go_ldc (v := (-1000002 : Int32)) d_C_dig_7 w552 B)) ?_
    exact rt_eqW Value.int hyp (rt_int d_C_dig_9 rfl)
  · replace hyp := (if_neg c3).symm.trans hyp
    refine rt_st (pc1 := 15) (fun _ _ B => go_if_ne_t 10 d_C_dig_4 rfl c3 (go_iload_n 1 d_C_dig_10 rfl (go_iconst (v := (2 : Int32)) d_C_dig_11 (by decide) (go_callS1 (st := []) [.int v1, .int (2 : Int32)] (t_C_within v1 (2 : Int32) h) mm_C_within (by decide) d_C_dig_12 w313 w314 rfl (Nat.le_of_ble_eq_true rfl) rfl B)))) ?_
    by_cases c4 : (f_C_within v1 (2 : Int32)) = 0
    · replace hyp := (if_pos c4).symm.trans hyp
      refine rt_st (pc1 := 29) (fun _ _ B => go_if_eq_t 27 d_C_dig_15 rfl c4 (go_ldc (v := (-1000001 : Int32)) d_C_dig_27 w316 B)) ?_
      exact rt_eqW Value.int hyp (rt_int d_C_dig_29 rfl)
    · replace hyp := (if_neg c4).symm.trans hyp
      obtain ⟨x5, e6, hyp⟩ := Option.bind_eq_some_iff.mp hyp
      refine rt_st (pc1 := 29) (fun _ _ B => go_if_eq_f d_C_dig_15 rfl c4 (go_aload_n 0 d_C_dig_18 rfl (go_iconst (v := (1 : Int32)) d_C_dig_19 (by decide) (go_iload_n 1 d_C_dig_20 rfl (go_callV1 (q := q_10) (st := []) [.int (1 : Int32), .int v1] (t_C_easiestCell F v0 (1 : Int32) v1 h _ (onc_spec e6).2) mm_C_easiestCell (by decide) d_C_dig_21 (onc_spec e6).1 rfl rfl w779 w781 w21 rfl (Nat.le_of_ble_eq_true rfl) rfl (go_goto 29 d_C_dig_24 rfl B)))))) ?_
      exact rt_eqW Value.int hyp (rt_int d_C_dig_29 rfl)
/-! WideTurn.years()I -/
def b_C_years_23 (F : Nat) : Nat → (Option Nat) → (Int32) → (MH) → (Option (Int32 × MH))
  | 0 => fun _ _ _ => none
  | n + 1 => fun v0 v1 h => 
    if (10 : Int32) < v1 then
      some ((-1000000 : Int32), h)
    else
      Option.bind (gfr h v0 [10] 3) fun x2 =>
      Option.bind (gfr h v0 [10] 5) fun x4 =>
      Option.bind (gfr h v0 [10] 5) fun x6 =>
      Option.bind (onc h x6 1 (f_B_sinks x6 h)) fun x8 =>
      Option.bind (onc h x2 6 (f_S_minutesToTurn F x2 x4 x8 h)) fun x10 =>
      if x10.1 = (-1000000 : Int32) then
        some (v1, x10.2)
      else
        Option.bind (gfr x10.2 v0 [10] 5) fun x13 =>
        Option.bind (onc x10.2 x13 1 (f_B_siltUp F x13 x10.2)) fun x15 =>
        (b_C_years_23 F n) v0 (v1 + (1 : Int32)) x15.2
def f_C_years (F : Nat) (v0 : Option Nat) (h : MH) : Option (Int32 × MH) :=
  Option.bind (gfi h v0 [10] 8) fun x1 =>
  if x1 = 0 then
    some ((-1000002 : Int32), h)
  else
    Option.bind (gfr h v0 [10] 5) fun x4 =>
    Option.bind (gfr h v0 [10] 4) fun x6 =>
    Option.bind (onc h x4 1 (f_B_become F x4 x6 h)) fun h8 =>
    b_C_years_23 F F v0 (0 : Int32) h8
set_option maxHeartbeats 4000000 in
set_option maxRecDepth 200000 in
theorem p_C_years_23 (F : Nat) {h0 : MH} : ∀ (n : Nat) (v0 : Option Nat) (v1 : Int32) (h : MH) (r : (Int32 × MH)), b_C_years_23 F  n v0 v1 h = some r → Rt mi_C_years 6 h0 23 [(0, va_rf v0), (1, .int v1)] [] h (some (.int r.1)) r.2 := by
  intro n
  induction n with
  | zero =>
    intro v0 v1 h r hyp
    cases hyp
  | succ n ih =>
    intro v0 v1 h r hyp
    unfold b_C_years_23 at hyp
    refine rt_st (pc1 := 26) (fun _ _ B => go_iload_n 1 d_C_years_23 rfl (go_bipush (v := (10 : Int32)) d_C_years_24 (by decide) B)) ?_
    by_cases c1 : (10 : Int32) < v1
    · replace hyp := (if_pos c1).symm.trans hyp
      refine rt_st (pc1 := 70) (fun _ _ B => go_icmp_gt_t 68 d_C_years_26 rfl c1 (go_ldc (v := (-1000000 : Int32)) d_C_years_68 w774 B)) ?_
      exact rt_eqW Value.int hyp (rt_int d_C_years_70 rfl)
    · replace hyp := (if_neg c1).symm.trans hyp
      obtain ⟨x2, e3, hyp⟩ := Option.bind_eq_some_iff.mp hyp
      obtain ⟨x4, e5, hyp⟩ := Option.bind_eq_some_iff.mp hyp
      obtain ⟨x6, e7, hyp⟩ := Option.bind_eq_some_iff.mp hyp
      obtain ⟨x8, e9, hyp⟩ := Option.bind_eq_some_iff.mp hyp
      obtain ⟨x10, e11, hyp⟩ := Option.bind_eq_some_iff.mp hyp
      refine rt_st (pc1 := 49) (fun _ _ B => go_icmp_gt_f d_C_years_26 rfl c1 (go_aload_n 0 d_C_years_29 rfl (go_gfr d_C_years_30 fd_10_3 w278 e3 (go_aload_n 0 d_C_years_33 rfl (go_gfr d_C_years_34 fd_10_5 w280 e5 (go_aload_n 0 d_C_years_37 rfl (go_gfr d_C_years_38 fd_10_5 w280 e7 (go_callV1 (q := q_1) (st := [va_rf x4, va_rf x2]) [] (t_B_sinks x6 h _ (onc_spec e9).2) mm_B_sinks (by decide) d_C_years_41 (onc_spec e9).1 rfl rfl w652 w576 w577 rfl (Nat.le_of_ble_eq_true rfl) rfl (go_callV1 (q := q_6) (st := []) [va_rf x4, .int x8] (t_S_minutesToTurn F x2 x4 x8 h _ (onc_spec e11).2) mm_S_minutesToTurn (by decide) d_C_years_44 (onc_spec e11).1 rfl rfl w763 w764 w765 rfl (Nat.le_of_ble_eq_true rfl) rfl (go_ldc (v := (-1000000 : Int32)) d_C_years_47 w774 B)))))))))) ?_
      by_cases c12 : x10.1 = (-1000000 : Int32)
      · replace hyp := (if_pos c12).symm.trans hyp
        refine rt_st (pc1 := 53) (fun _ _ B => go_icmp_ne_f d_C_years_49 rfl c12 (go_iload_n 1 d_C_years_52 rfl B)) ?_
        exact rt_eqW Value.int hyp (rt_int d_C_years_53 rfl)
      · replace hyp := (if_neg c12).symm.trans hyp
        obtain ⟨x13, e14, hyp⟩ := Option.bind_eq_some_iff.mp hyp
        obtain ⟨x15, e16, hyp⟩ := Option.bind_eq_some_iff.mp hyp
        refine rt_st (pc1 := 23) (fun _ _ B => go_icmp_ne_t 54 d_C_years_49 rfl c12 (go_aload_n 0 d_C_years_54 rfl (go_gfr d_C_years_55 fd_10_5 w280 e14 (go_callV1 (q := q_1) (st := []) [] (t_B_siltUp F x13 x10.2 _ (onc_spec e16).2) mm_B_siltUp (by decide) d_C_years_58 (onc_spec e16).1 rfl rfl w675 w676 w677 rfl (Nat.le_of_ble_eq_true rfl) rfl (go_pop d_C_years_61 rfl (go_iinc (v := (v1 + (1 : Int32))) (lv1 := [(1, .int (v1 + (1 : Int32))), (0, va_rf v0)]) 1 d_C_years_62 rfl rfl (by decide) (by first | (simp [mj_s1, mj_s2, mj_rfc, mj_cti, mj_ctl]; done) | (simp [mj_s1, mj_s2, mj_rfc, mj_cti, mj_ctl]; decide)) (go_goto 23 d_C_years_65 rfl B))))))) ?_
        refine rt_sub [1, 0] (lv1 := [(0, va_rf v0), (1, .int (v1 + (1 : Int32)))]) rfl ?_
        exact ih _ _ _ _ hyp
set_option maxHeartbeats 4000000 in
set_option maxRecDepth 200000 in
theorem t_C_years (F : Nat) (v0 : Option Nat) (h : MH) (r : (Int32 × MH)) (hyp : f_C_years F v0 h = some r) : Mt mi_C_years 6 [va_rf v0] h (some (.int r.1)) r.2 := by
  refine Mt.rt (lv := [(0, va_rf v0)]) (by decide +kernel) (by simp [lv_args, mj_rfc, mj_cti, mj_ctl]) (by simp [mj_rfc, mj_cti, mj_ctl]) ?_
  unfold f_C_years at hyp
  obtain ⟨x1, e2, hyp⟩ := Option.bind_eq_some_iff.mp hyp
  refine rt_st (pc1 := 4) (fun _ _ B => go_aload_n 0 d_C_years_0 rfl (go_gfi d_C_years_1 fd_10_8 w283 e2 B)) ?_
  by_cases c3 : x1 = 0
  · replace hyp := (if_pos c3).symm.trans hyp
    refine rt_st (pc1 := 9) (fun _ _ B => go_if_ne_f d_C_years_4 rfl c3 (go_ldc (v := (-1000002 : Int32)) d_C_years_7 w552 B)) ?_
    exact rt_eqW Value.int hyp (rt_int d_C_years_9 rfl)
  · replace hyp := (if_neg c3).symm.trans hyp
    obtain ⟨x4, e5, hyp⟩ := Option.bind_eq_some_iff.mp hyp
    obtain ⟨x6, e7, hyp⟩ := Option.bind_eq_some_iff.mp hyp
    obtain ⟨h8, e9, hyp⟩ := Option.bind_eq_some_iff.mp hyp
    refine rt_st (pc1 := 23) (fun _ _ B => go_if_ne_t 10 d_C_years_4 rfl c3 (go_aload_n 0 d_C_years_10 rfl (go_gfr d_C_years_11 fd_10_5 w280 e5 (go_aload_n 0 d_C_years_14 rfl (go_gfr d_C_years_15 fd_10_4 w279 e7 (go_callV0 (q := q_1) (st := []) [va_rf x6] (t_B_become F x4 x6 h _ (onc_spec e9).2) mm_B_become (by decide) d_C_years_18 (onc_spec e9).1 rfl rfl w526 w527 w528 rfl (Nat.le_of_ble_eq_true rfl) rfl (go_iconst (v := (0 : Int32)) d_C_years_21 (by decide) (go_istore_n (lv1 := [(1, .int (0 : Int32)), (0, va_rf v0)]) d_C_years_22 (by decide) (by first | (simp [mj_s1, mj_s2, mj_rfc, mj_cti, mj_ctl]; done) | (simp [mj_s1, mj_s2, mj_rfc, mj_cti, mj_ctl]; decide)) B)))))))) ?_
    refine rt_sub [1, 0] (lv1 := [(0, va_rf v0), (1, .int (0 : Int32))]) rfl ?_
    exact p_C_years_23 F F _ _ _ r hyp
/-! WideTurn.minutesIfLaden(I)I -/
def f_C_minutesIfLaden (F : Nat) (v0 : Option Nat) (v1 : Int32) (h : MH) : Option (Int32 × MH) :=
  Option.bind (gfr h v0 [10] 5) fun x1 =>
  Option.bind (gfr h v0 [10] 4) fun x3 =>
  Option.bind (onc h x1 1 (f_B_become F x1 x3 h)) fun h5 =>
  Option.bind (gfr h5 v0 [10] 5) fun x7 =>
  Option.bind (pfv h5 x7 [1] 5 (.int v1)) fun h9 =>
  Option.bind (gfr h9 v0 [10] 3) fun x11 =>
  Option.bind (gfr h9 v0 [10] 5) fun x13 =>
  Option.bind (gfr h9 v0 [10] 5) fun x15 =>
  Option.bind (onc h9 x15 1 (f_B_sinks x15 h9)) fun x17 =>
  Option.bind (onc h9 x11 6 (f_S_minutesToTurn F x11 x13 x17 h9)) fun x19 =>
  some (x19.1, x19.2)
set_option maxHeartbeats 4000000 in
set_option maxRecDepth 200000 in
theorem t_C_minutesIfLaden (F : Nat) (v0 : Option Nat) (v1 : Int32) (h : MH) (r : (Int32 × MH)) (hyp : f_C_minutesIfLaden F v0 v1 h = some r) : Mt mi_C_minutesIfLaden 6 [va_rf v0, .int v1] h (some (.int r.1)) r.2 := by
  refine Mt.rt (lv := [(0, va_rf v0), (1, .int v1)]) (by decide +kernel) (by simp [lv_args, mj_rfc, mj_cti, mj_ctl]) (by simp [mj_rfc, mj_cti, mj_ctl]) ?_
  unfold f_C_minutesIfLaden at hyp
  obtain ⟨x1, e2, hyp⟩ := Option.bind_eq_some_iff.mp hyp
  obtain ⟨x3, e4, hyp⟩ := Option.bind_eq_some_iff.mp hyp
  obtain ⟨h5, e6, hyp⟩ := Option.bind_eq_some_iff.mp hyp
  obtain ⟨x7, e8, hyp⟩ := Option.bind_eq_some_iff.mp hyp
  obtain ⟨h9, e10, hyp⟩ := Option.bind_eq_some_iff.mp hyp
  obtain ⟨x11, e12, hyp⟩ := Option.bind_eq_some_iff.mp hyp
  obtain ⟨x13, e14, hyp⟩ := Option.bind_eq_some_iff.mp hyp
  obtain ⟨x15, e16, hyp⟩ := Option.bind_eq_some_iff.mp hyp
  obtain ⟨x17, e18, hyp⟩ := Option.bind_eq_some_iff.mp hyp
  obtain ⟨x19, e20, hyp⟩ := Option.bind_eq_some_iff.mp hyp
  refine rt_st (pc1 := 37) (fun _ _ B => go_aload_n 0 d_C_minutesIfLaden_0 rfl (go_gfr d_C_minutesIfLaden_1 fd_10_5 w280 e2 (go_aload_n 0 d_C_minutesIfLaden_4 rfl (go_gfr d_C_minutesIfLaden_5 fd_10_4 w279 e4 (go_callV0 (q := q_1) (st := []) [va_rf x3] (t_B_become F x1 x3 h _ (onc_spec e6).2) mm_B_become (by decide) d_C_minutesIfLaden_8 (onc_spec e6).1 rfl rfl w526 w527 w528 rfl (Nat.le_of_ble_eq_true rfl) rfl (go_aload_n 0 d_C_minutesIfLaden_11 rfl (go_gfr d_C_minutesIfLaden_12 fd_10_5 w280 e8 (go_iload_n 1 d_C_minutesIfLaden_15 rfl (go_pfi d_C_minutesIfLaden_16 fd_1_5 w234 (fun q => by cases q) e10 (go_aload_n 0 d_C_minutesIfLaden_19 rfl (go_gfr d_C_minutesIfLaden_20 fd_10_3 w278 e12 (go_aload_n 0 d_C_minutesIfLaden_23 rfl (go_gfr d_C_minutesIfLaden_24 fd_10_5 w280 e14 (go_aload_n 0 d_C_minutesIfLaden_27 rfl (go_gfr d_C_minutesIfLaden_28 fd_10_5 w280 e16 (go_callV1 (q := q_1) (st := [va_rf x13, va_rf x11]) [] (t_B_sinks x15 h9 _ (onc_spec e18).2) mm_B_sinks (by decide) d_C_minutesIfLaden_31 (onc_spec e18).1 rfl rfl w652 w576 w577 rfl (Nat.le_of_ble_eq_true rfl) rfl (go_callV1 (q := q_6) (st := []) [va_rf x13, .int x17] (t_S_minutesToTurn F x11 x13 x17 h9 _ (onc_spec e20).2) mm_S_minutesToTurn (by decide) d_C_minutesIfLaden_34 (onc_spec e20).1 rfl rfl w763 w764 w765 rfl (Nat.le_of_ble_eq_true rfl) rfl B))))))))))))))))) ?_
  exact rt_eqW Value.int hyp (rt_int d_C_minutesIfLaden_37 rfl)
/-! WideTurn.better()I -/
def b_C_better_51 (F : Nat) : (Int32) → (MH) → (Option (Int32 × MH)) := fun v1 h => 
  if v1 = (-1000000 : Int32) then
    some ((1 : Int32), h)
  else
    some ((0 : Int32), h)
def f_C_better (F : Nat) (v0 : Option Nat) (h : MH) : Option (Int32 × MH) :=
  Option.bind (gfi h v0 [10] 8) fun x1 =>
  if x1 = 0 then
    some ((-1000002 : Int32), h)
  else
    Option.bind (onc h v0 10 (f_C_minutesIfLaden F v0 (0 : Int32) h)) fun x4 =>
    Option.bind (onc x4.2 v0 10 (f_C_minutesIfLaden F v0 (1 : Int32) x4.2)) fun x6 =>
    if x4.1 = x6.1 then
      if x4.1 = (-1000000 : Int32) then
        some ((3 : Int32), x6.2)
      else
        some ((2 : Int32), x6.2)
    else
      if x4.1 = (-1000000 : Int32) then
        b_C_better_51 F x4.1 x6.2
      else
        if x6.1 = (-1000000 : Int32) then
          b_C_better_51 F x4.1 x6.2
        else
          if x4.1 ≤ x6.1 then
            some ((0 : Int32), x6.2)
          else
            some ((1 : Int32), x6.2)
set_option maxHeartbeats 4000000 in
set_option maxRecDepth 200000 in
theorem p_C_better_51 (F : Nat) {h0 : MH} (v1 : Int32) (h : MH) (r : (Int32 × MH)) : b_C_better_51 F  v1 h = some r → Rt mi_C_better 7 h0 51 [(1, .int v1)] [] h (some (.int r.1)) r.2 := by
  intro hyp
  unfold b_C_better_51 at hyp
  refine rt_st (pc1 := 54) (fun _ _ B => go_iload_n 0 d_C_better_51 rfl (go_ldc (v := (-1000000 : Int32)) d_C_better_52 w774 B)) ?_
  by_cases c1 : v1 = (-1000000 : Int32)
  · replace hyp := (if_pos c1).symm.trans hyp
    refine rt_st (pc1 := 62) (fun _ _ B => go_icmp_ne_f d_C_better_54 rfl c1 (go_iconst (v := (1 : Int32)) d_C_better_57 (by decide) (go_goto 62 d_C_better_58 rfl B))) ?_
    exact rt_eqW Value.int hyp (rt_int d_C_better_62 rfl)
  · replace hyp := (if_neg c1).symm.trans hyp
    refine rt_st (pc1 := 62) (fun _ _ B => go_icmp_ne_t 61 d_C_better_54 rfl c1 (go_iconst (v := (0 : Int32)) d_C_better_61 (by decide) B)) ?_
    exact rt_eqW Value.int hyp (rt_int d_C_better_62 rfl)
set_option maxHeartbeats 4000000 in
set_option maxRecDepth 200000 in
theorem t_C_better (F : Nat) (v0 : Option Nat) (h : MH) (r : (Int32 × MH)) (hyp : f_C_better F v0 h = some r) : Mt mi_C_better 7 [va_rf v0] h (some (.int r.1)) r.2 := by
  refine Mt.rt (lv := [(0, va_rf v0)]) (by decide +kernel) (by simp [lv_args, mj_rfc, mj_cti, mj_ctl]) (by simp [mj_rfc, mj_cti, mj_ctl]) ?_
  unfold f_C_better at hyp
  obtain ⟨x1, e2, hyp⟩ := Option.bind_eq_some_iff.mp hyp
  refine rt_st (pc1 := 4) (fun _ _ B => go_aload_n 0 d_C_better_0 rfl (go_gfi d_C_better_1 fd_10_8 w283 e2 B)) ?_
  by_cases c3 : x1 = 0
  · replace hyp := (if_pos c3).symm.trans hyp
    refine rt_st (pc1 := 9) (fun _ _ B => go_if_ne_f d_C_better_4 rfl c3 (go_ldc (v := (-1000002 : Int32)) d_C_better_7 w552 B)) ?_
    exact rt_eqW Value.int hyp (rt_int d_C_better_9 rfl)
  · replace hyp := (if_neg c3).symm.trans hyp
    obtain ⟨x4, e5, hyp⟩ := Option.bind_eq_some_iff.mp hyp
    obtain ⟨x6, e7, hyp⟩ := Option.bind_eq_some_iff.mp hyp
    refine rt_st (pc1 := 24) (fun _ _ B => go_if_ne_t 10 d_C_better_4 rfl c3 (go_aload_n 0 d_C_better_10 rfl (go_iconst (v := (0 : Int32)) d_C_better_11 (by decide) (go_callV1 (q := q_10) (st := []) [.int (0 : Int32)] (t_C_minutesIfLaden F v0 (0 : Int32) h _ (onc_spec e5).2) mm_C_minutesIfLaden (by decide) d_C_better_12 (onc_spec e5).1 rfl rfl w796 w798 w22 rfl (Nat.le_of_ble_eq_true rfl) rfl (go_istore_n (lv1 := [(1, .int x4.1), (0, va_rf v0)]) d_C_better_15 (by decide) (by first | (simp [mj_s1, mj_s2, mj_rfc, mj_cti, mj_ctl]; done) | (simp [mj_s1, mj_s2, mj_rfc, mj_cti, mj_ctl]; decide)) (go_aload_n 1 d_C_better_16 rfl (go_iconst (v := (1 : Int32)) d_C_better_17 (by decide) (go_callV1 (q := q_10) (st := []) [.int (1 : Int32)] (t_C_minutesIfLaden F v0 (1 : Int32) x4.2 _ (onc_spec e7).2) mm_C_minutesIfLaden (by decide) d_C_better_18 (onc_spec e7).1 rfl rfl w796 w798 w22 rfl (Nat.le_of_ble_eq_true rfl) rfl (go_istore_n (lv1 := [(2, .int x6.1), (1, .int x4.1), (0, va_rf v0)]) d_C_better_21 (by decide) rfl (go_iload_n 1 d_C_better_22 rfl (go_iload_n 0 d_C_better_23 rfl B))))))))))) ?_
    by_cases c8 : x4.1 = x6.1
    · replace hyp := (if_pos c8).symm.trans hyp
      refine rt_st (pc1 := 30) (fun _ _ B => go_icmp_ne_f d_C_better_24 rfl c8 (go_iload_n 1 d_C_better_27 rfl (go_ldc (v := (-1000000 : Int32)) d_C_better_28 w774 B))) ?_
      by_cases c9 : x4.1 = (-1000000 : Int32)
      · replace hyp := (if_pos c9).symm.trans hyp
        refine rt_st (pc1 := 38) (fun _ _ B => go_icmp_ne_f d_C_better_30 rfl c9 (go_iconst (v := (3 : Int32)) d_C_better_33 (by decide) (go_goto 38 d_C_better_34 rfl B))) ?_
        exact rt_eqW Value.int hyp (rt_int d_C_better_38 rfl)
      · replace hyp := (if_neg c9).symm.trans hyp
        refine rt_st (pc1 := 38) (fun _ _ B => go_icmp_ne_t 37 d_C_better_30 rfl c9 (go_iconst (v := (2 : Int32)) d_C_better_37 (by decide) B)) ?_
        exact rt_eqW Value.int hyp (rt_int d_C_better_38 rfl)
    · replace hyp := (if_neg c8).symm.trans hyp
      refine rt_st (pc1 := 42) (fun _ _ B => go_icmp_ne_t 39 d_C_better_24 rfl c8 (go_iload_n 1 d_C_better_39 rfl (go_ldc (v := (-1000000 : Int32)) d_C_better_40 w774 B))) ?_
      by_cases c10 : x4.1 = (-1000000 : Int32)
      · replace hyp := (if_pos c10).symm.trans hyp
        refine rt_st (pc1 := 51) (fun _ _ B => go_icmp_eq_t 51 d_C_better_42 rfl c10 B) ?_
        refine rt_sub [1] (lv1 := [(1, .int x4.1)]) rfl ?_
        exact p_C_better_51 F _ _ r hyp
      · replace hyp := (if_neg c10).symm.trans hyp
        refine rt_st (pc1 := 48) (fun _ _ B => go_icmp_eq_f d_C_better_42 rfl c10 (go_iload_n 0 d_C_better_45 rfl (go_ldc (v := (-1000000 : Int32)) d_C_better_46 w774 B))) ?_
        by_cases c11 : x6.1 = (-1000000 : Int32)
        · replace hyp := (if_pos c11).symm.trans hyp
          refine rt_st (pc1 := 51) (fun _ _ B => go_icmp_ne_f d_C_better_48 rfl c11 B) ?_
          refine rt_sub [1] (lv1 := [(1, .int x4.1)]) rfl ?_
          exact p_C_better_51 F _ _ r hyp
        · replace hyp := (if_neg c11).symm.trans hyp
          refine rt_st (pc1 := 65) (fun _ _ B => go_icmp_ne_t 63 d_C_better_48 rfl c11 (go_iload_n 0 d_C_better_63 rfl (go_iload_n 1 d_C_better_64 rfl B))) ?_
          by_cases c12 : x4.1 ≤ x6.1
          · replace hyp := (if_pos c12).symm.trans hyp
            refine rt_st (pc1 := 73) (fun _ _ B => go_icmp_ge_t 72 d_C_better_65 rfl c12 (go_iconst (v := (0 : Int32)) d_C_better_72 (by decide) B)) ?_
            exact rt_eqW Value.int hyp (rt_int d_C_better_73 rfl)
          · replace hyp := (if_neg c12).symm.trans hyp
            refine rt_st (pc1 := 73) (fun _ _ B => go_icmp_ge_f d_C_better_65 rfl c12 (go_iconst (v := (1 : Int32)) d_C_better_68 (by decide) (go_goto 73 d_C_better_69 rfl B))) ?_
            exact rt_eqW Value.int hyp (rt_int d_C_better_73 rfl)
/-! WideTurn.findingAt(III)I -/
def f_C_findingAt (v0 : Option Nat) (v1 : Int32) (v2 : Int32) (v3 : Int32) (h : MH) : Option (Int32) :=
  Option.bind (gfr h v0 [10] 0) fun x1 =>
  Option.bind (onc h x1 5 (f_Rw_isMissing x1 v1 h)) fun x3 =>
  if x3 = 0 then
    Option.bind (gfr h v0 [10] 0) fun x6 =>
    Option.bind (onc h x6 5 (f_Rw_holds x6 v1 v2 v3 h)) fun x8 =>
    if x8 = 0 then
      some (2 : Int32)
    else
      some (0 : Int32)
  else
    some (1 : Int32)
set_option maxHeartbeats 4000000 in
set_option maxRecDepth 200000 in
theorem t_C_findingAt (v0 : Option Nat) (v1 : Int32) (v2 : Int32) (v3 : Int32) (h : MH) (r : (Int32)) (hyp : f_C_findingAt v0 v1 v2 v3 h = some r) : Mt mi_C_findingAt 4 [va_rf v0, .int v1, .int v2, .int v3] h (some (.int r)) h := by
  refine Mt.rt (lv := [(0, va_rf v0), (1, .int v1), (2, .int v2), (3, .int v3)]) (by decide +kernel) (by simp [lv_args, mj_rfc, mj_cti, mj_ctl]) (by simp [mj_rfc, mj_cti, mj_ctl]) ?_
  unfold f_C_findingAt at hyp
  obtain ⟨x1, e2, hyp⟩ := Option.bind_eq_some_iff.mp hyp
  obtain ⟨x3, e4, hyp⟩ := Option.bind_eq_some_iff.mp hyp
  refine rt_st (pc1 := 8) (fun _ _ B => go_aload_n 0 d_C_findingAt_0 rfl (go_gfr d_C_findingAt_1 fd_10_0 w275 e2 (go_iload_n 1 d_C_findingAt_4 rfl (go_callV1 (q := q_5) (st := []) [.int v1] (t_Rw_isMissing x1 v1 h _ (onc_spec e4).2) mm_Rw_isMissing (by decide) d_C_findingAt_5 (onc_spec e4).1 rfl rfl w337 w338 w339 rfl (Nat.le_of_ble_eq_true rfl) rfl B)))) ?_
  by_cases c5 : x3 = 0
  · replace hyp := (if_pos c5).symm.trans hyp
    obtain ⟨x6, e7, hyp⟩ := Option.bind_eq_some_iff.mp hyp
    obtain ⟨x8, e9, hyp⟩ := Option.bind_eq_some_iff.mp hyp
    refine rt_st (pc1 := 23) (fun _ _ B => go_if_eq_t 13 d_C_findingAt_8 rfl c5 (go_aload_n 0 d_C_findingAt_13 rfl (go_gfr d_C_findingAt_14 fd_10_0 w275 e7 (go_iload_n 1 d_C_findingAt_17 rfl (go_iload_n 2 d_C_findingAt_18 rfl (go_iload_n 3 d_C_findingAt_19 rfl (go_callV1 (q := q_5) (st := []) [.int v1, .int v2, .int v3] (t_Rw_holds x6 v1 v2 v3 h _ (onc_spec e9).2) mm_Rw_holds (by decide) d_C_findingAt_20 (onc_spec e9).1 rfl rfl w345 w346 w347 rfl (Nat.le_of_ble_eq_true rfl) rfl B))))))) ?_
    by_cases c10 : x8 = 0
    · replace hyp := (if_pos c10).symm.trans hyp
      refine rt_st (pc1 := 31) (fun _ _ B => go_if_eq_t 30 d_C_findingAt_23 rfl c10 (go_iconst (v := (2 : Int32)) d_C_findingAt_30 (by decide) B)) ?_
      exact rt_eqR Value.int hyp (rt_int d_C_findingAt_31 rfl)
    · replace hyp := (if_neg c10).symm.trans hyp
      refine rt_st (pc1 := 31) (fun _ _ B => go_if_eq_f d_C_findingAt_23 rfl c10 (go_iconst (v := (0 : Int32)) d_C_findingAt_26 (by decide) (go_goto 31 d_C_findingAt_27 rfl B))) ?_
      exact rt_eqR Value.int hyp (rt_int d_C_findingAt_31 rfl)
  · replace hyp := (if_neg c5).symm.trans hyp
    refine rt_st (pc1 := 12) (fun _ _ B => go_if_eq_f d_C_findingAt_8 rfl c5 (go_iconst (v := (1 : Int32)) d_C_findingAt_11 (by decide) B)) ?_
    exact rt_eqR Value.int hyp (rt_int d_C_findingAt_12 rfl)
/-! WideTurn.planned(IIII)I -/
def b_C_planned_132 (F : Nat) : (Int32) → (Int32) → (Int32) → (MH) → (Option (Int32 × MH)) := fun v4 v5 v6 h => 
  if v4 = 0 then
    some (v5, h)
  else
    some (v6, h)
def b_C_planned_61 (F : Nat) (k20 : (Option Nat) → Int32 → Int32 → Int32 → Int32 → Int32 → Int32 → Int32 → MH → (Option (Int32 × MH))) : (Option Nat) → (Int32) → (Int32) → (Int32) → (Int32) → (Int32) → (Int32) → (Int32) → (Int32) → (Option Nat) → (MH) → (Option (Int32 × MH)) := fun v0 v1 v2 v3 v4 v5 v6 v7 v8 s0 h => 
  if s0 = none then
    b_C_planned_132 F v4 v5 v6 h
  else
    if (f_C_within (mj_irem v8 (10 : Int32)) (8 : Int32)) = 0 then
      b_C_planned_132 F v4 v5 v6 h
    else
      Option.bind (gfr h v0 [10] 5) fun x3 =>
      Option.bind (onc h x3 1 (f_B_canMake x3 s0 (mj_irem v8 (10 : Int32)) h)) fun x5 =>
      if x5 = 0 then
        b_C_planned_132 F v4 v5 v6 h
      else
        Option.bind (gfr h v0 [10] 5) fun x8 =>
        Option.bind (onc h x8 1 (f_B_make x8 (mj_irem v8 (10 : Int32)) h)) fun h10 =>
        Option.bind (v_H_minutesFor s0 (mj_irem v8 (10 : Int32)) h10) fun x12 =>
        k20 v0 v1 v2 v3 v4 (v5 + (1 : Int32)) (v6 + x12) (v7 + (1 : Int32)) h10
def b_C_planned_20 (F : Nat) : Nat → (Option Nat) → (Int32) → (Int32) → (Int32) → (Int32) → (Int32) → (Int32) → (Int32) → (MH) → (Option (Int32 × MH))
  | 0 => fun _ _ _ _ _ _ _ _ _ => none
  | n + 1 => fun v0 v1 v2 v3 v4 v5 v6 v7 h => 
    if v3 ≤ v7 then
      b_C_planned_132 F v4 v5 v6 h
    else
      Option.bind (gfr h v0 [10] 0) fun x2 =>
      Option.bind (onc h x2 5 (f_Rw_item x2 v1 (v2 + v7) h)) fun x4 =>
      if 0 ≤ x4 then
        Option.bind (gfr h v0 [10] 5) fun x7 =>
        Option.bind (onc h x7 1 (f_B_handAt x7 (x4 / (10 : Int32)) h)) fun x9 =>
        b_C_planned_61 F (b_C_planned_20 F n) v0 v1 v2 v3 v4 v5 v6 v7 x4 x9 h
      else
        b_C_planned_61 F (b_C_planned_20 F n) v0 v1 v2 v3 v4 v5 v6 v7 x4 none h
def f_C_planned (F : Nat) (v0 : Option Nat) (v1 : Int32) (v2 : Int32) (v3 : Int32) (v4 : Int32) (h : MH) : Option (Int32 × MH) :=
  Option.bind (gfr h v0 [10] 5) fun x1 =>
  Option.bind (gfr h v0 [10] 4) fun x3 =>
  Option.bind (onc h x1 1 (f_B_become F x1 x3 h)) fun h5 =>
  b_C_planned_20 F F v0 v1 v2 v3 v4 (0 : Int32) (0 : Int32) (0 : Int32) h5
set_option maxHeartbeats 4000000 in
set_option maxRecDepth 200000 in
theorem p_C_planned_132 (F : Nat) {h0 : MH} (v4 : Int32) (v5 : Int32) (v6 : Int32) (h : MH) (r : (Int32 × MH)) : b_C_planned_132 F  v4 v5 v6 h = some r → Rt mi_C_planned 4 h0 132 [(4, .int v4), (5, .int v5), (6, .int v6)] [] h (some (.int r.1)) r.2 := by
  intro hyp
  unfold b_C_planned_132 at hyp
  refine rt_st (pc1 := 134) (fun _ _ B => go_iload 0 d_C_planned_132 rfl B) ?_
  by_cases c1 : v4 = 0
  · replace hyp := (if_pos c1).symm.trans hyp
    refine rt_st (pc1 := 144) (fun _ _ B => go_if_ne_f d_C_planned_134 rfl c1 (go_iload 1 d_C_planned_137 rfl (go_goto 144 d_C_planned_139 rfl B))) ?_
    exact rt_eqW Value.int hyp (rt_int d_C_planned_144 rfl)
  · replace hyp := (if_neg c1).symm.trans hyp
    refine rt_st (pc1 := 144) (fun _ _ B => go_if_ne_t 142 d_C_planned_134 rfl c1 (go_iload 2 d_C_planned_142 rfl B)) ?_
    exact rt_eqW Value.int hyp (rt_int d_C_planned_144 rfl)
set_option maxHeartbeats 4000000 in
set_option maxRecDepth 200000 in
theorem vs_C_planned_120 {h0 : MH} (h : MH) {o : Option Nat} {a0 : Int32} {pc2 : Nat} {lv lv2 : List (Nat × Value)} {st st2 : List Value} {h2 : MH} {x : Int32} (e : v_H_minutesFor o a0 h = some x) (hst : st.length ≤ 4) (B : Go mi_C_planned 4 h0 (120 + 3) lv (.int x :: st) h pc2 lv2 st2 h2) : Go mi_C_planned 4 h0 120 lv (.int a0 :: va_rf o :: st) h pc2 lv2 st2 h2 := by
  unfold v_H_minutesFor at e
  by_cases c2 : cls h o = some 2
  · replace e := (if_pos c2).symm.trans e
    exact go_callU1 (q := q_2) [.int a0] (t_H_minutesFor o a0 h _ e) mm_H_minutesFor (by decide) d_C_planned_120 c2 rfl w647 w593 (Or.inr w601) (by decide +kernel) w594 w592 rfl hst rfl B
  replace e := (if_neg c2).symm.trans e
  by_cases c3 : cls h o = some 3
  · replace e := (if_pos c3).symm.trans e
    exact go_callU1 (q := q_3) [.int a0] (t_H_minutesFor o a0 h _ e) mm_H_minutesFor (by decide) d_C_planned_120 c3 rfl w647 w593 (Or.inr w601) (by decide +kernel) w595 w592 rfl hst rfl B
  replace e := (if_neg c3).symm.trans e
  by_cases c4 : cls h o = some 4
  · replace e := (if_pos c4).symm.trans e
    exact go_callU1 (q := q_4) [.int a0] (t_Ro_minutesFor o a0 h _ e) mm_Ro_minutesFor (by decide) d_C_planned_120 c4 rfl w647 w593 (Or.inr w601) (by decide +kernel) w596 w597 rfl hst rfl B
  replace e := (if_neg c4).symm.trans e
  by_cases c7 : cls h o = some 7
  · replace e := (if_pos c7).symm.trans e
    exact go_callU1 (q := q_7) [.int a0] (t_H_minutesFor o a0 h _ e) mm_H_minutesFor (by decide) d_C_planned_120 c7 rfl w647 w593 (Or.inr w601) (by decide +kernel) w603 w592 rfl hst rfl B
  replace e := (if_neg c7).symm.trans e
  by_cases c8 : cls h o = some 8
  · replace e := (if_pos c8).symm.trans e
    exact go_callU1 (q := q_8) [.int a0] (t_H_minutesFor o a0 h _ e) mm_H_minutesFor (by decide) d_C_planned_120 c8 rfl w647 w593 (Or.inr w601) (by decide +kernel) w604 w592 rfl hst rfl B
  replace e := (if_neg c8).symm.trans e
  cases e
set_option maxHeartbeats 4000000 in
set_option maxRecDepth 200000 in
theorem p_C_planned_61 (F : Nat) {h0 : MH} (k20 : (Option Nat) → Int32 → Int32 → Int32 → Int32 → Int32 → Int32 → Int32 → MH → (Option (Int32 × MH))) (hk20 : ∀ (v0 : Option Nat) (v1 : Int32) (v2 : Int32) (v3 : Int32) (v4 : Int32) (v5 : Int32) (v6 : Int32) (v7 : Int32) (h : MH) (r : (Int32 × MH)), k20 v0 v1 v2 v3 v4 v5 v6 v7 h = some r → Rt mi_C_planned 4 h0 20 [(0, va_rf v0), (1, .int v1), (2, .int v2), (3, .int v3), (4, .int v4), (5, .int v5), (6, .int v6), (7, .int v7)] [] h (some (.int r.1)) r.2) (v0 : Option Nat) (v1 : Int32) (v2 : Int32) (v3 : Int32) (v4 : Int32) (v5 : Int32) (v6 : Int32) (v7 : Int32) (v8 : Int32) (s0 : Option Nat) (h : MH) (r : (Int32 × MH)) : b_C_planned_61 F k20  v0 v1 v2 v3 v4 v5 v6 v7 v8 s0 h = some r → Rt mi_C_planned 4 h0 61 [(0, va_rf v0), (1, .int v1), (2, .int v2), (3, .int v3), (4, .int v4), (5, .int v5), (6, .int v6), (7, .int v7), (8, .int v8)] [va_rf s0] h (some (.int r.1)) r.2 := by
  intro hyp
  unfold b_C_planned_61 at hyp
  refine rt_st (pc1 := 72) (fun _ _ B => go_astore (lv1 := [(9, va_rf s0), (0, va_rf v0), (1, .int v1), (2, .int v2), (3, .int v3), (4, .int v4), (5, .int v5), (6, .int v6), (7, .int v7), (8, .int v8)]) d_C_planned_61 (by decide) rfl (go_iload 9 d_C_planned_63 rfl (go_bipush (v := (10 : Int32)) d_C_planned_65 (by decide) (go_irem d_C_planned_67 (by decide) (go_istore (lv1 := [(10, .int (mj_irem v8 (10 : Int32))), (9, va_rf s0), (0, va_rf v0), (1, .int v1), (2, .int v2), (3, .int v3), (4, .int v4), (5, .int v5), (6, .int v6), (7, .int v7), (8, .int v8)]) d_C_planned_68 (by decide) (by first | (simp [mj_s1, mj_s2, mj_rfc, mj_cti, mj_ctl]; done) | (simp [mj_s1, mj_s2, mj_rfc, mj_cti, mj_ctl]; decide)) (go_aload 1 d_C_planned_70 rfl B)))))) ?_
  by_cases c1 : s0 = none
  · replace hyp := (if_pos c1).symm.trans hyp
    refine rt_st (pc1 := 132) (fun _ _ B => go_ifnull_t 132 d_C_planned_72 rfl c1 B) ?_
    refine rt_sub [6, 7, 8] (lv1 := [(4, .int v4), (5, .int v5), (6, .int v6)]) rfl ?_
    exact p_C_planned_132 F _ _ _ _ r hyp
  · replace hyp := (if_neg c1).symm.trans hyp
    refine rt_st (pc1 := 82) (fun _ _ B => go_ifnull_f d_C_planned_72 rfl c1 (go_iload 0 d_C_planned_75 rfl (go_bipush (v := (8 : Int32)) d_C_planned_77 (by decide) (go_callS1 (st := []) [.int (mj_irem v8 (10 : Int32)), .int (8 : Int32)] (t_C_within (mj_irem v8 (10 : Int32)) (8 : Int32) h) mm_C_within (by decide) d_C_planned_79 w313 w314 rfl (Nat.le_of_ble_eq_true rfl) rfl B)))) ?_
    by_cases c2 : (f_C_within (mj_irem v8 (10 : Int32)) (8 : Int32)) = 0
    · replace hyp := (if_pos c2).symm.trans hyp
      refine rt_st (pc1 := 132) (fun _ _ B => go_if_eq_t 132 d_C_planned_82 rfl c2 B) ?_
      refine rt_sub [6, 7, 8] (lv1 := [(4, .int v4), (5, .int v5), (6, .int v6)]) rfl ?_
      exact p_C_planned_132 F _ _ _ _ r hyp
    · replace hyp := (if_neg c2).symm.trans hyp
      obtain ⟨x3, e4, hyp⟩ := Option.bind_eq_some_iff.mp hyp
      obtain ⟨x5, e6, hyp⟩ := Option.bind_eq_some_iff.mp hyp
      refine rt_st (pc1 := 96) (fun _ _ B => go_if_eq_f d_C_planned_82 rfl c2 (go_aload_n 2 d_C_planned_85 rfl (go_gfr d_C_planned_86 fd_10_5 w280 e4 (go_aload 1 d_C_planned_89 rfl (go_iload 0 d_C_planned_91 rfl (go_callV1 (q := q_1) (st := []) [va_rf s0, .int (mj_irem v8 (10 : Int32))] (t_B_canMake x3 s0 (mj_irem v8 (10 : Int32)) h _ (onc_spec e6).2) mm_B_canMake (by decide) d_C_planned_93 (onc_spec e6).1 rfl rfl w571 w572 w573 rfl (Nat.le_of_ble_eq_true rfl) rfl B)))))) ?_
      by_cases c7 : x5 = 0
      · replace hyp := (if_pos c7).symm.trans hyp
        refine rt_st (pc1 := 132) (fun _ _ B => go_if_ne_f d_C_planned_96 rfl c7 (go_goto 132 d_C_planned_99 rfl B)) ?_
        refine rt_sub [6, 7, 8] (lv1 := [(4, .int v4), (5, .int v5), (6, .int v6)]) rfl ?_
        exact p_C_planned_132 F _ _ _ _ r hyp
      · replace hyp := (if_neg c7).symm.trans hyp
        obtain ⟨x8, e9, hyp⟩ := Option.bind_eq_some_iff.mp hyp
        obtain ⟨h10, e11, hyp⟩ := Option.bind_eq_some_iff.mp hyp
        obtain ⟨x12, e13, hyp⟩ := Option.bind_eq_some_iff.mp hyp
        refine rt_st (pc1 := 20) (fun _ _ B => go_if_ne_t 102 d_C_planned_96 rfl c7 (go_aload_n 2 d_C_planned_102 rfl (go_gfr d_C_planned_103 fd_10_5 w280 e9 (go_iload 0 d_C_planned_106 rfl (go_callV0 (q := q_1) (st := []) [.int (mj_irem v8 (10 : Int32))] (t_B_make x8 (mj_irem v8 (10 : Int32)) h _ (onc_spec e11).2) mm_B_make (by decide) d_C_planned_108 (onc_spec e11).1 rfl rfl w639 w640 w641 rfl (Nat.le_of_ble_eq_true rfl) rfl (go_iinc (v := (v5 + (1 : Int32))) (lv1 := [(5, .int (v5 + (1 : Int32))), (10, .int (mj_irem v8 (10 : Int32))), (9, va_rf s0), (0, va_rf v0), (1, .int v1), (2, .int v2), (3, .int v3), (4, .int v4), (6, .int v6), (7, .int v7), (8, .int v8)]) 7 d_C_planned_111 rfl rfl (by decide) rfl (go_iload 8 d_C_planned_114 rfl (go_aload 2 d_C_planned_116 rfl (go_iload 1 d_C_planned_118 rfl (vs_C_planned_120 h10 (st := [.int v6]) e13 (Nat.le_of_ble_eq_true rfl) (go_iadd d_C_planned_123 (go_istore (lv1 := [(6, .int (v6 + x12)), (5, .int (v5 + (1 : Int32))), (10, .int (mj_irem v8 (10 : Int32))), (9, va_rf s0), (0, va_rf v0), (1, .int v1), (2, .int v2), (3, .int v3), (4, .int v4), (7, .int v7), (8, .int v8)]) d_C_planned_124 (by decide) rfl (go_iinc (v := (v7 + (1 : Int32))) (lv1 := [(7, .int (v7 + (1 : Int32))), (6, .int (v6 + x12)), (5, .int (v5 + (1 : Int32))), (10, .int (mj_irem v8 (10 : Int32))), (9, va_rf s0), (0, va_rf v0), (1, .int v1), (2, .int v2), (3, .int v3), (4, .int v4), (8, .int v8)]) 9 d_C_planned_126 rfl rfl (by decide) rfl (go_goto 20 d_C_planned_129 rfl B)))))))))))))) ?_
        refine rt_sub [5, 6, 7, 8, 9, 2, 1, 0] (lv1 := [(0, va_rf v0), (1, .int v1), (2, .int v2), (3, .int v3), (4, .int v4), (5, .int (v5 + (1 : Int32))), (6, .int (v6 + x12)), (7, .int (v7 + (1 : Int32)))]) rfl ?_
        exact hk20 _ _ _ _ _ _ _ _ _ _ hyp
set_option maxHeartbeats 4000000 in
set_option maxRecDepth 200000 in
theorem p_C_planned_20 (F : Nat) {h0 : MH} : ∀ (n : Nat) (v0 : Option Nat) (v1 : Int32) (v2 : Int32) (v3 : Int32) (v4 : Int32) (v5 : Int32) (v6 : Int32) (v7 : Int32) (h : MH) (r : (Int32 × MH)), b_C_planned_20 F  n v0 v1 v2 v3 v4 v5 v6 v7 h = some r → Rt mi_C_planned 4 h0 20 [(0, va_rf v0), (1, .int v1), (2, .int v2), (3, .int v3), (4, .int v4), (5, .int v5), (6, .int v6), (7, .int v7)] [] h (some (.int r.1)) r.2 := by
  intro n
  induction n with
  | zero =>
    intro v0 v1 v2 v3 v4 v5 v6 v7 h r hyp
    cases hyp
  | succ n ih =>
    intro v0 v1 v2 v3 v4 v5 v6 v7 h r hyp
    unfold b_C_planned_20 at hyp
    refine rt_st (pc1 := 23) (fun _ _ B => go_iload 7 d_C_planned_20 rfl (go_iload_n 3 d_C_planned_22 rfl B)) ?_
    by_cases c1 : v3 ≤ v7
    · replace hyp := (if_pos c1).symm.trans hyp
      refine rt_st (pc1 := 132) (fun _ _ B => go_icmp_ge_t 132 d_C_planned_23 rfl c1 B) ?_
      refine rt_sub [4, 5, 6] (lv1 := [(4, .int v4), (5, .int v5), (6, .int v6)]) rfl ?_
      exact p_C_planned_132 F _ _ _ _ r hyp
    · replace hyp := (if_neg c1).symm.trans hyp
      obtain ⟨x2, e3, hyp⟩ := Option.bind_eq_some_iff.mp hyp
      obtain ⟨x4, e5, hyp⟩ := Option.bind_eq_some_iff.mp hyp
      refine rt_st (pc1 := 42) (fun _ _ B => go_icmp_ge_f d_C_planned_23 rfl c1 (go_aload_n 0 d_C_planned_26 rfl (go_gfr d_C_planned_27 fd_10_0 w275 e3 (go_iload_n 1 d_C_planned_30 rfl (go_iload_n 2 d_C_planned_31 rfl (go_iload 7 d_C_planned_32 rfl (go_iadd d_C_planned_34 (go_callV1 (q := q_5) (st := []) [.int v1, .int (v2 + v7)] (t_Rw_item x2 v1 (v2 + v7) h _ (onc_spec e5).2) mm_Rw_item (by decide) d_C_planned_35 (onc_spec e5).1 rfl rfl w812 w813 w814 rfl (Nat.le_of_ble_eq_true rfl) rfl (go_istore (lv1 := [(8, .int x4), (0, va_rf v0), (1, .int v1), (2, .int v2), (3, .int v3), (4, .int v4), (5, .int v5), (6, .int v6), (7, .int v7)]) d_C_planned_38 (by decide) rfl (go_iload 0 d_C_planned_40 rfl B)))))))))) ?_
      by_cases c6 : 0 ≤ x4
      · replace hyp := (if_pos c6).symm.trans hyp
        obtain ⟨x7, e8, hyp⟩ := Option.bind_eq_some_iff.mp hyp
        obtain ⟨x9, e10, hyp⟩ := Option.bind_eq_some_iff.mp hyp
        refine rt_st (pc1 := 61) (fun _ _ B => go_if_ge_t 49 d_C_planned_42 rfl c6 (go_aload_n 1 d_C_planned_49 rfl (go_gfr d_C_planned_50 fd_10_5 w280 e8 (go_iload 0 d_C_planned_53 rfl (go_bipush (v := (10 : Int32)) d_C_planned_55 (by decide) (go_idiv d_C_planned_57 (by decide) (go_callV1 (q := q_1) (st := []) [.int (x4 / (10 : Int32))] (t_B_handAt x7 (x4 / (10 : Int32)) h _ (onc_spec e10).2) mm_B_handAt (by decide) d_C_planned_58 (onc_spec e10).1 rfl rfl w567 w568 w569 rfl (Nat.le_of_ble_eq_true rfl) rfl B))))))) ?_
        refine rt_sub [1, 2, 3, 4, 5, 6, 7, 8, 0] (lv1 := [(0, va_rf v0), (1, .int v1), (2, .int v2), (3, .int v3), (4, .int v4), (5, .int v5), (6, .int v6), (7, .int v7), (8, .int x4)]) rfl ?_
        exact p_C_planned_61 F (b_C_planned_20 F n) (fun a0 a1 a2 a3 a4 a5 a6 a7 a8 r hyp => ih a0 a1 a2 a3 a4 a5 a6 a7 a8 r hyp) _ _ _ _ _ _ _ _ _ _ _ r hyp
      · replace hyp := (if_neg c6).symm.trans hyp
        refine rt_st (pc1 := 61) (fun _ _ B => go_if_ge_f d_C_planned_42 rfl c6 (go_null d_C_planned_45 (go_goto 61 d_C_planned_46 rfl B))) ?_
        refine rt_sub [1, 2, 3, 4, 5, 6, 7, 8, 0] (lv1 := [(0, va_rf v0), (1, .int v1), (2, .int v2), (3, .int v3), (4, .int v4), (5, .int v5), (6, .int v6), (7, .int v7), (8, .int x4)]) rfl ?_
        exact p_C_planned_61 F (b_C_planned_20 F n) (fun a0 a1 a2 a3 a4 a5 a6 a7 a8 r hyp => ih a0 a1 a2 a3 a4 a5 a6 a7 a8 r hyp) _ _ _ _ _ _ _ _ _ _ _ r hyp
set_option maxHeartbeats 4000000 in
set_option maxRecDepth 200000 in
theorem t_C_planned (F : Nat) (v0 : Option Nat) (v1 : Int32) (v2 : Int32) (v3 : Int32) (v4 : Int32) (h : MH) (r : (Int32 × MH)) (hyp : f_C_planned F v0 v1 v2 v3 v4 h = some r) : Mt mi_C_planned 4 [va_rf v0, .int v1, .int v2, .int v3, .int v4] h (some (.int r.1)) r.2 := by
  refine Mt.rt (lv := [(0, va_rf v0), (1, .int v1), (2, .int v2), (3, .int v3), (4, .int v4)]) (by decide +kernel) (by simp [lv_args, mj_rfc, mj_cti, mj_ctl]) (by simp [mj_rfc, mj_cti, mj_ctl]) ?_
  unfold f_C_planned at hyp
  obtain ⟨x1, e2, hyp⟩ := Option.bind_eq_some_iff.mp hyp
  obtain ⟨x3, e4, hyp⟩ := Option.bind_eq_some_iff.mp hyp
  obtain ⟨h5, e6, hyp⟩ := Option.bind_eq_some_iff.mp hyp
  refine rt_st (pc1 := 20) (fun _ _ B => go_aload_n 0 d_C_planned_0 rfl (go_gfr d_C_planned_1 fd_10_5 w280 e2 (go_aload_n 0 d_C_planned_4 rfl (go_gfr d_C_planned_5 fd_10_4 w279 e4 (go_callV0 (q := q_1) (st := []) [va_rf x3] (t_B_become F x1 x3 h _ (onc_spec e6).2) mm_B_become (by decide) d_C_planned_8 (onc_spec e6).1 rfl rfl w526 w527 w528 rfl (Nat.le_of_ble_eq_true rfl) rfl (go_iconst (v := (0 : Int32)) d_C_planned_11 (by decide) (go_istore (lv1 := [(5, .int (0 : Int32)), (0, va_rf v0), (1, .int v1), (2, .int v2), (3, .int v3), (4, .int v4)]) d_C_planned_12 (by decide) rfl (go_iconst (v := (0 : Int32)) d_C_planned_14 (by decide) (go_istore (lv1 := [(6, .int (0 : Int32)), (5, .int (0 : Int32)), (0, va_rf v0), (1, .int v1), (2, .int v2), (3, .int v3), (4, .int v4)]) d_C_planned_15 (by decide) rfl (go_iconst (v := (0 : Int32)) d_C_planned_17 (by decide) (go_istore (lv1 := [(7, .int (0 : Int32)), (6, .int (0 : Int32)), (5, .int (0 : Int32)), (0, va_rf v0), (1, .int v1), (2, .int v2), (3, .int v3), (4, .int v4)]) d_C_planned_18 (by decide) rfl B))))))))))) ?_
  refine rt_sub [3, 4, 5, 6, 7, 2, 1, 0] (lv1 := [(0, va_rf v0), (1, .int v1), (2, .int v2), (3, .int v3), (4, .int v4), (5, .int (0 : Int32)), (6, .int (0 : Int32)), (7, .int (0 : Int32))]) rfl ?_
  exact p_C_planned_20 F F _ _ _ _ _ _ _ _ _ r hyp
