/-! WideTurn.count(I)I -/
def f_C_count (F : Nat) (v0 : Option Nat) (v1 : Int32) (h : MH) : Option (Int32) :=
  if v1 = (0 : Int32) then
    Option.bind (gfr h v0 [10] 0) fun x2 =>
    Option.bind (onc h x2 5 (f_Rw_present F x2 h)) fun x4 =>
    some x4
  else
  if v1 = (1 : Int32) then
    Option.bind (gfr h v0 [10] 4) fun x7 =>
    Option.bind (gfi h x7 [1] 8) fun x9 =>
    some x9
  else
  if v1 = (2 : Int32) then
    Option.bind (gfr h v0 [10] 4) fun x12 =>
    Option.bind (gfi h x12 [1] 0) fun x14 =>
    some x14
  else
  if v1 = (3 : Int32) then
    Option.bind (gfr h v0 [10] 4) fun x17 =>
    Option.bind (gfi h x17 [1] 2) fun x19 =>
    some x19
  else
  if v1 = (4 : Int32) then
    Option.bind (gfr h v0 [10] 4) fun x22 =>
    Option.bind (gfi h x22 [1] 7) fun x24 =>
    some x24
  else
  if v1 = (5 : Int32) then
    Option.bind (gfr h v0 [10] 2) fun x27 =>
    Option.bind (onc h x27 0 (f_A_kept x27 h)) fun x29 =>
    some x29
  else
  if v1 = (6 : Int32) then
    Option.bind (gfr h v0 [10] 1) fun x32 =>
    Option.bind (onc h x32 9 (f_T_length x32 h)) fun x34 =>
    some x34
  else
  some (-1000001 : Int32)
set_option maxHeartbeats 4000000 in
set_option maxRecDepth 200000 in
theorem t_C_count (F : Nat) (v0 : Option Nat) (v1 : Int32) (h : MH) (r : (Int32)) (hyp : f_C_count F v0 v1 h = some r) : Mt mi_C_count 5 [va_rf v0, .int v1] h (some (.int r)) h := by
  refine Mt.rt (lv := [(0, va_rf v0), (1, .int v1)]) (by decide +kernel) (by simp [lv_args, mj_rfc, mj_cti, mj_ctl]) (by simp [mj_rfc, mj_cti, mj_ctl]) ?_
  unfold f_C_count at hyp
  refine rt_st (pc1 := 1) (fun _ _ B => go_iload_n 1 d_C_count_0 rfl B) ?_
  by_cases c1 : v1 = (0 : Int32)
  · replace hyp := (if_pos c1).symm.trans hyp
    obtain ⟨x2, e3, hyp⟩ := Option.bind_eq_some_iff.mp hyp
    obtain ⟨x4, e5, hyp⟩ := Option.bind_eq_some_iff.mp hyp
    refine rt_st (pc1 := 51) (fun _ _ B => go_tsw 44 d_C_count_1 (by decide) (by rw [c1]; decide) (go_aload_n 0 d_C_count_44 rfl (go_gfr d_C_count_45 fd_10_0 w275 e3 (go_callV1 (q := q_5) (st := []) [] (t_Rw_present F x2 h _ (onc_spec e5).2) mm_Rw_present (by decide) d_C_count_48 (onc_spec e5).1 rfl rfl w975 w976 w977 rfl (Nat.le_of_ble_eq_true rfl) rfl B)))) ?_
    exact rt_eqR Value.int hyp (rt_int d_C_count_51 rfl)
  replace hyp := (if_neg c1).symm.trans hyp
  by_cases c6 : v1 = (1 : Int32)
  · replace hyp := (if_pos c6).symm.trans hyp
    obtain ⟨x7, e8, hyp⟩ := Option.bind_eq_some_iff.mp hyp
    obtain ⟨x9, e10, hyp⟩ := Option.bind_eq_some_iff.mp hyp
    refine rt_st (pc1 := 59) (fun _ _ B => go_tsw 52 d_C_count_1 (by decide) (by rw [c6]; decide) (go_aload_n 0 d_C_count_52 rfl (go_gfr d_C_count_53 fd_10_4 w279 e8 (go_gfi d_C_count_56 fd_1_8 w244 e10 B)))) ?_
    exact rt_eqR Value.int hyp (rt_int d_C_count_59 rfl)
  replace hyp := (if_neg c6).symm.trans hyp
  by_cases c11 : v1 = (2 : Int32)
  · replace hyp := (if_pos c11).symm.trans hyp
    obtain ⟨x12, e13, hyp⟩ := Option.bind_eq_some_iff.mp hyp
    obtain ⟨x14, e15, hyp⟩ := Option.bind_eq_some_iff.mp hyp
    refine rt_st (pc1 := 67) (fun _ _ B => go_tsw 60 d_C_count_1 (by decide) (by rw [c11]; decide) (go_aload_n 0 d_C_count_60 rfl (go_gfr d_C_count_61 fd_10_4 w279 e13 (go_gfi d_C_count_64 fd_1_0 w216 e15 B)))) ?_
    exact rt_eqR Value.int hyp (rt_int d_C_count_67 rfl)
  replace hyp := (if_neg c11).symm.trans hyp
  by_cases c16 : v1 = (3 : Int32)
  · replace hyp := (if_pos c16).symm.trans hyp
    obtain ⟨x17, e18, hyp⟩ := Option.bind_eq_some_iff.mp hyp
    obtain ⟨x19, e20, hyp⟩ := Option.bind_eq_some_iff.mp hyp
    refine rt_st (pc1 := 75) (fun _ _ B => go_tsw 68 d_C_count_1 (by decide) (by rw [c16]; decide) (go_aload_n 0 d_C_count_68 rfl (go_gfr d_C_count_69 fd_10_4 w279 e18 (go_gfi d_C_count_72 fd_1_2 w221 e20 B)))) ?_
    exact rt_eqR Value.int hyp (rt_int d_C_count_75 rfl)
  replace hyp := (if_neg c16).symm.trans hyp
  by_cases c21 : v1 = (4 : Int32)
  · replace hyp := (if_pos c21).symm.trans hyp
    obtain ⟨x22, e23, hyp⟩ := Option.bind_eq_some_iff.mp hyp
    obtain ⟨x24, e25, hyp⟩ := Option.bind_eq_some_iff.mp hyp
    refine rt_st (pc1 := 83) (fun _ _ B => go_tsw 76 d_C_count_1 (by decide) (by rw [c21]; decide) (go_aload_n 0 d_C_count_76 rfl (go_gfr d_C_count_77 fd_10_4 w279 e23 (go_gfi d_C_count_80 fd_1_7 w242 e25 B)))) ?_
    exact rt_eqR Value.int hyp (rt_int d_C_count_83 rfl)
  replace hyp := (if_neg c21).symm.trans hyp
  by_cases c26 : v1 = (5 : Int32)
  · replace hyp := (if_pos c26).symm.trans hyp
    obtain ⟨x27, e28, hyp⟩ := Option.bind_eq_some_iff.mp hyp
    obtain ⟨x29, e30, hyp⟩ := Option.bind_eq_some_iff.mp hyp
    refine rt_st (pc1 := 91) (fun _ _ B => go_tsw 84 d_C_count_1 (by decide) (by rw [c26]; decide) (go_aload_n 0 d_C_count_84 rfl (go_gfr d_C_count_85 fd_10_2 w277 e28 (go_callV1 (q := q_0) (st := []) [] (t_A_kept x27 h _ (onc_spec e30).2) mm_A_kept (by decide) d_C_count_88 (onc_spec e30).1 rfl rfl w548 w549 w550 rfl (Nat.le_of_ble_eq_true rfl) rfl B)))) ?_
    exact rt_eqR Value.int hyp (rt_int d_C_count_91 rfl)
  replace hyp := (if_neg c26).symm.trans hyp
  by_cases c31 : v1 = (6 : Int32)
  · replace hyp := (if_pos c31).symm.trans hyp
    obtain ⟨x32, e33, hyp⟩ := Option.bind_eq_some_iff.mp hyp
    obtain ⟨x34, e35, hyp⟩ := Option.bind_eq_some_iff.mp hyp
    refine rt_st (pc1 := 99) (fun _ _ B => go_tsw 92 d_C_count_1 (by decide) (by rw [c31]; decide) (go_aload_n 0 d_C_count_92 rfl (go_gfr d_C_count_93 fd_10_1 w276 e33 (go_callV1 (q := q_9) (st := []) [] (t_T_length x32 h _ (onc_spec e35).2) mm_T_length (by decide) d_C_count_96 (onc_spec e35).1 rfl rfl w387 w388 w389 rfl (Nat.le_of_ble_eq_true rfl) rfl B)))) ?_
    exact rt_eqR Value.int hyp (rt_int d_C_count_99 rfl)
  replace hyp := (if_neg c31).symm.trans hyp
  refine rt_st (pc1 := 102) (fun _ _ B => go_tsw 100 d_C_count_1 (by decide) (mj_swd [0, 1, 2, 3, 4, 5, 6] (List.forall_mem_cons.mpr ⟨mj_swn c1 (by decide), List.forall_mem_cons.mpr ⟨mj_swn c6 (by decide), List.forall_mem_cons.mpr ⟨mj_swn c11 (by decide), List.forall_mem_cons.mpr ⟨mj_swn c16 (by decide), List.forall_mem_cons.mpr ⟨mj_swn c21 (by decide), List.forall_mem_cons.mpr ⟨mj_swn c26 (by decide), List.forall_mem_cons.mpr ⟨mj_swn c31 (by decide), List.forall_mem_nil _⟩⟩⟩⟩⟩⟩⟩) (by decide) rfl) (go_ldc (v := (-1000001 : Int32)) d_C_count_100 w316 B)) ?_
  exact rt_eqR Value.int hyp (rt_int d_C_count_102 rfl)
/-! WideTurn.status()I -/
def f_C_status (v0 : Option Nat) (h : MH) : Option (Int32) :=
  Option.bind (gfi h v0 [10] 9) fun x1 =>
  some x1
set_option maxHeartbeats 4000000 in
set_option maxRecDepth 200000 in
theorem t_C_status (v0 : Option Nat) (h : MH) (r : (Int32)) (hyp : f_C_status v0 h = some r) : Mt mi_C_status 1 [va_rf v0] h (some (.int r)) h := by
  refine Mt.rt (lv := [(0, va_rf v0)]) (by decide +kernel) (by simp [lv_args, mj_rfc, mj_cti, mj_ctl]) (by simp [mj_rfc, mj_cti, mj_ctl]) ?_
  unfold f_C_status at hyp
  obtain ⟨x1, e2, hyp⟩ := Option.bind_eq_some_iff.mp hyp
  refine rt_st (pc1 := 4) (fun _ _ B => go_aload_n 0 d_C_status_0 rfl (go_gfi d_C_status_1 fd_10_9 w284 e2 B)) ?_
  exact rt_eqR Value.int hyp (rt_int d_C_status_4 rfl)
