/-! WideTurn.Tape.readNumber(II)I -/
def b_T_readNumber_92 (F : Nat) : (Option Nat) → (Int32) → (MH) → (Option (Int32 × MH)) := fun v0 v1 h => 
  Option.bind (gfi h v0 [9] 2) fun x1 =>
  Option.bind (onc h v0 9 (f_T_fail v0 (2 : Int32) x1 h)) fun h3 =>
  some (v1, h3)
def b_T_readNumber_69 (F : Nat) : (Option Nat) → (Int32) → (MH) → (Option (Int32 × MH)) := fun v0 v1 h => 
  Option.bind (gfi h v0 [9] 2) fun x1 =>
  Option.bind (onc h v0 9 (f_T_fail v0 (1 : Int32) x1 h)) fun h3 =>
  some (v1, h3)
def b_T_readNumber_60 (F : Nat) : (Option Nat) → (Int32) → (Int32) → (Int32) → (Int32) → (MH) → (Option (Int32 × MH)) := fun v0 v1 v2 v3 v4 h => 
  if v3 = 0 then
    b_T_readNumber_69 F v0 v1 h
  else
    if v3 ≤ (2 : Int32) then
      if v4 < v1 then
        b_T_readNumber_92 F v0 v1 h
      else
        if v4 ≤ v2 then
          Option.bind (gfi h v0 [9] 2) fun x5 =>
          Option.bind (pfv h v0 [9] 2 (.int (x5 + v3))) fun h7 =>
          some (v4, h7)
        else
          b_T_readNumber_92 F v0 v1 h
    else
      b_T_readNumber_69 F v0 v1 h
def b_T_readNumber_11 (F : Nat) : Nat → (Option Nat) → (Int32) → (Int32) → (Int32) → (Int32) → (Int32) → (MH) → (Option (Int32 × MH))
  | 0 => fun _ _ _ _ _ _ _ => none
  | n + 1 => fun v0 v1 v2 v3 v4 v5 h => 
    Option.bind (gfi h v0 [9] 2) fun x1 =>
    if (x1 + (3 : Int32)) ≤ v5 then
      b_T_readNumber_60 F v0 v1 v2 v3 v4 h
    else
      Option.bind (onc h v0 9 (f_T_letterAt v0 v5 h)) fun x4 =>
      if (f_T_isFigure x4) = 0 then
        b_T_readNumber_60 F v0 v1 v2 v3 v4 h
      else
        Option.bind (onc h v0 9 (f_T_letterAt v0 v5 h)) fun x7 =>
        (b_T_readNumber_11 F n) v0 v1 v2 (v3 + (1 : Int32)) ((((10 : Int32) * v4) + x7) - (48 : Int32)) (v5 + (1 : Int32)) h
def f_T_readNumber (F : Nat) (v0 : Option Nat) (v1 : Int32) (v2 : Int32) (h : MH) : Option (Int32 × MH) :=
  Option.bind (gfi h v0 [9] 2) fun x1 =>
  b_T_readNumber_11 F F v0 v1 v2 (0 : Int32) (0 : Int32) x1 h
set_option maxHeartbeats 4000000 in
set_option maxRecDepth 200000 in
theorem p_T_readNumber_92 (F : Nat) {h0 : MH} (v0 : Option Nat) (v1 : Int32) (h : MH) (r : (Int32 × MH)) : b_T_readNumber_92 F  v0 v1 h = some r → Rt mi_T_readNumber 3 h0 92 [(0, va_rf v0), (1, .int v1)] [] h (some (.int r.1)) r.2 := by
  intro hyp
  unfold b_T_readNumber_92 at hyp
  obtain ⟨x1, e2, hyp⟩ := Option.bind_eq_some_iff.mp hyp
  obtain ⟨h3, e4, hyp⟩ := Option.bind_eq_some_iff.mp hyp
  refine rt_st (pc1 := 102) (fun _ _ B => go_aload_n 0 d_T_readNumber_92 rfl (go_iconst (v := (2 : Int32)) d_T_readNumber_93 (by decide) (go_aload_n 0 d_T_readNumber_94 rfl (go_gfi d_T_readNumber_95 fd_9_2 w106 e2 (go_callV0 (q := q_9) (st := []) [.int (2 : Int32), .int x1] (t_T_fail v0 (2 : Int32) x1 h _ (onc_spec e4).2) mm_T_fail (by decide) d_T_readNumber_98 (onc_spec e4).1 rfl rfl w417 w419 w5 rfl (Nat.le_of_ble_eq_true rfl) rfl (go_iload_n 1 d_T_readNumber_101 rfl B)))))) ?_
  exact rt_eqW Value.int hyp (rt_int d_T_readNumber_102 rfl)
set_option maxHeartbeats 4000000 in
set_option maxRecDepth 200000 in
theorem p_T_readNumber_69 (F : Nat) {h0 : MH} (v0 : Option Nat) (v1 : Int32) (h : MH) (r : (Int32 × MH)) : b_T_readNumber_69 F  v0 v1 h = some r → Rt mi_T_readNumber 3 h0 69 [(0, va_rf v0), (1, .int v1)] [] h (some (.int r.1)) r.2 := by
  intro hyp
  unfold b_T_readNumber_69 at hyp
  obtain ⟨x1, e2, hyp⟩ := Option.bind_eq_some_iff.mp hyp
  obtain ⟨h3, e4, hyp⟩ := Option.bind_eq_some_iff.mp hyp
  refine rt_st (pc1 := 79) (fun _ _ B => go_aload_n 0 d_T_readNumber_69 rfl (go_iconst (v := (1 : Int32)) d_T_readNumber_70 (by decide) (go_aload_n 0 d_T_readNumber_71 rfl (go_gfi d_T_readNumber_72 fd_9_2 w106 e2 (go_callV0 (q := q_9) (st := []) [.int (1 : Int32), .int x1] (t_T_fail v0 (1 : Int32) x1 h _ (onc_spec e4).2) mm_T_fail (by decide) d_T_readNumber_75 (onc_spec e4).1 rfl rfl w417 w419 w5 rfl (Nat.le_of_ble_eq_true rfl) rfl (go_iload_n 1 d_T_readNumber_78 rfl B)))))) ?_
  exact rt_eqW Value.int hyp (rt_int d_T_readNumber_79 rfl)
set_option maxHeartbeats 4000000 in
set_option maxRecDepth 200000 in
theorem p_T_readNumber_60 (F : Nat) {h0 : MH} (v0 : Option Nat) (v1 : Int32) (v2 : Int32) (v3 : Int32) (v4 : Int32) (h : MH) (r : (Int32 × MH)) : b_T_readNumber_60 F  v0 v1 v2 v3 v4 h = some r → Rt mi_T_readNumber 3 h0 60 [(0, va_rf v0), (1, .int v1), (2, .int v2), (3, .int v3), (4, .int v4)] [] h (some (.int r.1)) r.2 := by
  intro hyp
  unfold b_T_readNumber_60 at hyp
  refine rt_st (pc1 := 61) (fun _ _ B => go_iload_n 3 d_T_readNumber_60 rfl B) ?_
  by_cases c1 : v3 = 0
  · replace hyp := (if_pos c1).symm.trans hyp
    refine rt_st (pc1 := 69) (fun _ _ B => go_if_eq_t 69 d_T_readNumber_61 rfl c1 B) ?_
    refine rt_sub [0, 1] (lv1 := [(0, va_rf v0), (1, .int v1)]) rfl ?_
    exact p_T_readNumber_69 F _ _ _ r hyp
  · replace hyp := (if_neg c1).symm.trans hyp
    refine rt_st (pc1 := 66) (fun _ _ B => go_if_eq_f d_T_readNumber_61 rfl c1 (go_iload_n 3 d_T_readNumber_64 rfl (go_iconst (v := (2 : Int32)) d_T_readNumber_65 (by decide) B))) ?_
    by_cases c2 : v3 ≤ (2 : Int32)
    · replace hyp := (if_pos c2).symm.trans hyp
      refine rt_st (pc1 := 83) (fun _ _ B => go_icmp_le_t 80 d_T_readNumber_66 rfl c2 (go_iload 4 d_T_readNumber_80 rfl (go_iload_n 1 d_T_readNumber_82 rfl B))) ?_
      by_cases c3 : v4 < v1
      · replace hyp := (if_pos c3).symm.trans hyp
        refine rt_st (pc1 := 92) (fun _ _ B => go_icmp_lt_t 92 d_T_readNumber_83 rfl c3 B) ?_
        refine rt_sub [0, 1] (lv1 := [(0, va_rf v0), (1, .int v1)]) rfl ?_
        exact p_T_readNumber_92 F _ _ _ r hyp
      · replace hyp := (if_neg c3).symm.trans hyp
        refine rt_st (pc1 := 89) (fun _ _ B => go_icmp_lt_f d_T_readNumber_83 rfl c3 (go_iload 4 d_T_readNumber_86 rfl (go_iload_n 2 d_T_readNumber_88 rfl B))) ?_
        by_cases c4 : v4 ≤ v2
        · replace hyp := (if_pos c4).symm.trans hyp
          obtain ⟨x5, e6, hyp⟩ := Option.bind_eq_some_iff.mp hyp
          obtain ⟨h7, e8, hyp⟩ := Option.bind_eq_some_iff.mp hyp
          refine rt_st (pc1 := 115) (fun _ _ B => go_icmp_le_t 103 d_T_readNumber_89 rfl c4 (go_aload_n 0 d_T_readNumber_103 rfl (go_dup d_T_readNumber_104 (mj_rfc _) (go_gfi d_T_readNumber_105 fd_9_2 w106 e6 (go_iload_n 3 d_T_readNumber_108 rfl (go_iadd d_T_readNumber_109 (go_pfi d_T_readNumber_110 fd_9_2 w106 (fun q => by cases q) e8 (go_iload 4 d_T_readNumber_113 rfl B)))))))) ?_
          exact rt_eqW Value.int hyp (rt_int d_T_readNumber_115 rfl)
        · replace hyp := (if_neg c4).symm.trans hyp
          refine rt_st (pc1 := 92) (fun _ _ B => go_icmp_le_f d_T_readNumber_89 rfl c4 B) ?_
          refine rt_sub [0, 1] (lv1 := [(0, va_rf v0), (1, .int v1)]) rfl ?_
          exact p_T_readNumber_92 F _ _ _ r hyp
    · replace hyp := (if_neg c2).symm.trans hyp
      refine rt_st (pc1 := 69) (fun _ _ B => go_icmp_le_f d_T_readNumber_66 rfl c2 B) ?_
      refine rt_sub [0, 1] (lv1 := [(0, va_rf v0), (1, .int v1)]) rfl ?_
      exact p_T_readNumber_69 F _ _ _ r hyp
set_option maxHeartbeats 4000000 in
set_option maxRecDepth 200000 in
theorem p_T_readNumber_11 (F : Nat) {h0 : MH} : ∀ (n : Nat) (v0 : Option Nat) (v1 : Int32) (v2 : Int32) (v3 : Int32) (v4 : Int32) (v5 : Int32) (h : MH) (r : (Int32 × MH)), b_T_readNumber_11 F  n v0 v1 v2 v3 v4 v5 h = some r → Rt mi_T_readNumber 3 h0 11 [(0, va_rf v0), (1, .int v1), (2, .int v2), (3, .int v3), (4, .int v4), (5, .int v5)] [] h (some (.int r.1)) r.2 := by
  intro n
  induction n with
  | zero =>
    intro v0 v1 v2 v3 v4 v5 h r hyp
    cases hyp
  | succ n ih =>
    intro v0 v1 v2 v3 v4 v5 h r hyp
    unfold b_T_readNumber_11 at hyp
    obtain ⟨x1, e2, hyp⟩ := Option.bind_eq_some_iff.mp hyp
    refine rt_st (pc1 := 19) (fun _ _ B => go_iload 5 d_T_readNumber_11 rfl (go_aload_n 0 d_T_readNumber_13 rfl (go_gfi d_T_readNumber_14 fd_9_2 w106 e2 (go_iconst (v := (3 : Int32)) d_T_readNumber_17 (by decide) (go_iadd d_T_readNumber_18 B))))) ?_
    by_cases c3 : (x1 + (3 : Int32)) ≤ v5
    · replace hyp := (if_pos c3).symm.trans hyp
      refine rt_st (pc1 := 60) (fun _ _ B => go_icmp_ge_t 60 d_T_readNumber_19 rfl c3 B) ?_
      refine rt_sub [0, 1, 2, 3, 4] (lv1 := [(0, va_rf v0), (1, .int v1), (2, .int v2), (3, .int v3), (4, .int v4)]) rfl ?_
      exact p_T_readNumber_60 F _ _ _ _ _ _ r hyp
    · replace hyp := (if_neg c3).symm.trans hyp
      obtain ⟨x4, e5, hyp⟩ := Option.bind_eq_some_iff.mp hyp
      refine rt_st (pc1 := 31) (fun _ _ B => go_icmp_ge_f d_T_readNumber_19 rfl c3 (go_aload_n 0 d_T_readNumber_22 rfl (go_iload 5 d_T_readNumber_23 rfl (go_callV1 (q := q_9) (st := []) [.int v5] (t_T_letterAt v0 v5 h _ (onc_spec e5).2) mm_T_letterAt (by decide) d_T_readNumber_25 (onc_spec e5).1 rfl rfl w412 w414 w4 rfl (Nat.le_of_ble_eq_true rfl) rfl (go_callS1 (st := []) [.int x4] (t_T_isFigure x4 h) mm_T_isFigure (by decide) d_T_readNumber_28 w425 w426 rfl (Nat.le_of_ble_eq_true rfl) rfl B))))) ?_
      by_cases c6 : (f_T_isFigure x4) = 0
      · replace hyp := (if_pos c6).symm.trans hyp
        refine rt_st (pc1 := 60) (fun _ _ B => go_if_eq_t 60 d_T_readNumber_31 rfl c6 B) ?_
        refine rt_sub [0, 1, 2, 3, 4] (lv1 := [(0, va_rf v0), (1, .int v1), (2, .int v2), (3, .int v3), (4, .int v4)]) rfl ?_
        exact p_T_readNumber_60 F _ _ _ _ _ _ r hyp
      · replace hyp := (if_neg c6).symm.trans hyp
        obtain ⟨x7, e8, hyp⟩ := Option.bind_eq_some_iff.mp hyp
        refine rt_st (pc1 := 11) (fun _ _ B => go_if_eq_f d_T_readNumber_31 rfl c6 (go_iinc (v := (v3 + (1 : Int32))) (lv1 := [(3, .int (v3 + (1 : Int32))), (0, va_rf v0), (1, .int v1), (2, .int v2), (4, .int v4), (5, .int v5)]) 3 d_T_readNumber_34 rfl rfl (by decide) rfl (go_bipush (v := (10 : Int32)) d_T_readNumber_37 (by decide) (go_iload 4 d_T_readNumber_39 rfl (go_imul d_T_readNumber_41 (go_aload_n 1 d_T_readNumber_42 rfl (go_iload 5 d_T_readNumber_43 rfl (go_callV1 (q := q_9) (st := [.int ((10 : Int32) * v4)]) [.int v5] (t_T_letterAt v0 v5 h _ (onc_spec e8).2) mm_T_letterAt (by decide) d_T_readNumber_45 (onc_spec e8).1 rfl rfl w412 w414 w4 rfl (Nat.le_of_ble_eq_true rfl) rfl (go_iadd d_T_readNumber_48 (go_bipush (v := (48 : Int32)) d_T_readNumber_49 (by decide) (go_isub d_T_readNumber_51 (go_istore (lv1 := [(4, .int ((((10 : Int32) * v4) + x7) - (48 : Int32))), (3, .int (v3 + (1 : Int32))), (0, va_rf v0), (1, .int v1), (2, .int v2), (5, .int v5)]) d_T_readNumber_52 (by decide) rfl (go_iinc (v := (v5 + (1 : Int32))) (lv1 := [(5, .int (v5 + (1 : Int32))), (4, .int ((((10 : Int32) * v4) + x7) - (48 : Int32))), (3, .int (v3 + (1 : Int32))), (0, va_rf v0), (1, .int v1), (2, .int v2)]) 5 d_T_readNumber_54 rfl rfl (by decide) rfl (go_goto 11 d_T_readNumber_57 rfl B)))))))))))))) ?_
        refine rt_sub [3, 4, 5, 2, 1, 0] (lv1 := [(0, va_rf v0), (1, .int v1), (2, .int v2), (3, .int (v3 + (1 : Int32))), (4, .int ((((10 : Int32) * v4) + x7) - (48 : Int32))), (5, .int (v5 + (1 : Int32)))]) rfl ?_
        exact ih _ _ _ _ _ _ _ _ hyp
set_option maxHeartbeats 4000000 in
set_option maxRecDepth 200000 in
theorem t_T_readNumber (F : Nat) (v0 : Option Nat) (v1 : Int32) (v2 : Int32) (h : MH) (r : (Int32 × MH)) (hyp : f_T_readNumber F v0 v1 v2 h = some r) : Mt mi_T_readNumber 3 [va_rf v0, .int v1, .int v2] h (some (.int r.1)) r.2 := by
  refine Mt.rt (lv := [(0, va_rf v0), (1, .int v1), (2, .int v2)]) (by decide +kernel) (by simp [lv_args, mj_rfc, mj_cti, mj_ctl]) (by simp [mj_rfc, mj_cti, mj_ctl]) ?_
  unfold f_T_readNumber at hyp
  obtain ⟨x1, e2, hyp⟩ := Option.bind_eq_some_iff.mp hyp
  refine rt_st (pc1 := 11) (fun _ _ B => go_iconst (v := (0 : Int32)) d_T_readNumber_0 (by decide) (go_istore_n (lv1 := [(3, .int (0 : Int32)), (0, va_rf v0), (1, .int v1), (2, .int v2)]) d_T_readNumber_1 (by decide) rfl (go_iconst (v := (0 : Int32)) d_T_readNumber_2 (by decide) (go_istore (lv1 := [(4, .int (0 : Int32)), (3, .int (0 : Int32)), (0, va_rf v0), (1, .int v1), (2, .int v2)]) d_T_readNumber_3 (by decide) rfl (go_aload_n 2 d_T_readNumber_5 rfl (go_gfi d_T_readNumber_6 fd_9_2 w106 e2 (go_istore (lv1 := [(5, .int x1), (4, .int (0 : Int32)), (3, .int (0 : Int32)), (0, va_rf v0), (1, .int v1), (2, .int v2)]) d_T_readNumber_9 (by decide) rfl B))))))) ?_
  refine rt_sub [3, 4, 5, 2, 1, 0] (lv1 := [(0, va_rf v0), (1, .int v1), (2, .int v2), (3, .int (0 : Int32)), (4, .int (0 : Int32)), (5, .int x1)]) rfl ?_
  exact p_T_readNumber_11 F F _ _ _ _ _ _ _ r hyp
/-! WideTurn.Tape.readLaw(LWideTurn.Basin;)V -/
def f_T_readLaw (F : Nat) (v0 : Option Nat) (v1 : Option Nat) (h : MH) : Option MH :=
  Option.bind (onc h v0 9 (f_T_readLetter v0 (119 : Int32) h)) fun h1 =>
  Option.bind (onc h1 v0 9 (f_T_readNumber F v0 (0 : Int32) (8 : Int32) h1)) fun x3 =>
  Option.bind (pfv x3.2 v1 [1] 0 (.int x3.1)) fun h5 =>
  Option.bind (onc h5 v0 9 (f_T_readLetter v0 (44 : Int32) h5)) fun h7 =>
  Option.bind (onc h7 v0 9 (f_T_readNumber F v0 (1 : Int32) (5 : Int32) h7)) fun x9 =>
  Option.bind (pfv x9.2 v1 [1] 1 (.int x9.1)) fun h11 =>
  Option.bind (onc h11 v0 9 (f_T_readLetter v0 (44 : Int32) h11)) fun h13 =>
  Option.bind (onc h13 v0 9 (f_T_readNumber F v0 (0 : Int32) (3 : Int32) h13)) fun x15 =>
  Option.bind (pfv x15.2 v1 [1] 2 (.int x15.1)) fun h17 =>
  Option.bind (onc h17 v0 9 (f_T_readLetter v0 (59 : Int32) h17)) fun h19 =>
  some h19
set_option maxHeartbeats 4000000 in
set_option maxRecDepth 200000 in
theorem t_T_readLaw (F : Nat) (v0 : Option Nat) (v1 : Option Nat) (h : MH) (r : MH) (hyp : f_T_readLaw F v0 v1 h = some r) : Mt mi_T_readLaw 4 [va_rf v0, va_rf v1] h none r := by
  refine Mt.rt (lv := [(0, va_rf v0), (1, va_rf v1)]) (by decide +kernel) (by simp [lv_args, mj_rfc, mj_cti, mj_ctl]) (by simp [mj_rfc, mj_cti, mj_ctl]) ?_
  unfold f_T_readLaw at hyp
  obtain ⟨h1, e2, hyp⟩ := Option.bind_eq_some_iff.mp hyp
  obtain ⟨x3, e4, hyp⟩ := Option.bind_eq_some_iff.mp hyp
  obtain ⟨h5, e6, hyp⟩ := Option.bind_eq_some_iff.mp hyp
  obtain ⟨h7, e8, hyp⟩ := Option.bind_eq_some_iff.mp hyp
  obtain ⟨x9, e10, hyp⟩ := Option.bind_eq_some_iff.mp hyp
  obtain ⟨h11, e12, hyp⟩ := Option.bind_eq_some_iff.mp hyp
  obtain ⟨h13, e14, hyp⟩ := Option.bind_eq_some_iff.mp hyp
  obtain ⟨x15, e16, hyp⟩ := Option.bind_eq_some_iff.mp hyp
  obtain ⟨h17, e18, hyp⟩ := Option.bind_eq_some_iff.mp hyp
  obtain ⟨h19, e20, hyp⟩ := Option.bind_eq_some_iff.mp hyp
  refine rt_st (pc1 := 55) (fun _ _ B => go_aload_n 0 d_T_readLaw_0 rfl (go_bipush (v := (119 : Int32)) d_T_readLaw_1 (by decide) (go_callV0 (q := q_9) (st := []) [.int (119 : Int32)] (t_T_readLetter v0 (119 : Int32) h _ (onc_spec e2).2) mm_T_readLetter (by decide) d_T_readLaw_3 (onc_spec e2).1 rfl rfl w408 w410 w3 rfl (Nat.le_of_ble_eq_true rfl) rfl (go_aload_n 1 d_T_readLaw_6 rfl (go_aload_n 0 d_T_readLaw_7 rfl (go_iconst (v := (0 : Int32)) d_T_readLaw_8 (by decide) (go_bipush (v := (8 : Int32)) d_T_readLaw_9 (by decide) (go_callV1 (q := q_9) (st := [va_rf v1]) [.int (0 : Int32), .int (8 : Int32)] (t_T_readNumber F v0 (0 : Int32) (8 : Int32) h1 _ (onc_spec e4).2) mm_T_readNumber (by decide) d_T_readLaw_11 (onc_spec e4).1 rfl rfl w421 w423 w6 rfl (Nat.le_of_ble_eq_true rfl) rfl (go_pfi d_T_readLaw_14 fd_1_0 w214 (fun q => by cases q) e6 (go_aload_n 0 d_T_readLaw_17 rfl (go_bipush (v := (44 : Int32)) d_T_readLaw_18 (by decide) (go_callV0 (q := q_9) (st := []) [.int (44 : Int32)] (t_T_readLetter v0 (44 : Int32) h5 _ (onc_spec e8).2) mm_T_readLetter (by decide) d_T_readLaw_20 (onc_spec e8).1 rfl rfl w408 w410 w3 rfl (Nat.le_of_ble_eq_true rfl) rfl (go_aload_n 1 d_T_readLaw_23 rfl (go_aload_n 0 d_T_readLaw_24 rfl (go_iconst (v := (1 : Int32)) d_T_readLaw_25 (by decide) (go_iconst (v := (5 : Int32)) d_T_readLaw_26 (by decide) (go_callV1 (q := q_9) (st := [va_rf v1]) [.int (1 : Int32), .int (5 : Int32)] (t_T_readNumber F v0 (1 : Int32) (5 : Int32) h7 _ (onc_spec e10).2) mm_T_readNumber (by decide) d_T_readLaw_27 (onc_spec e10).1 rfl rfl w421 w423 w6 rfl (Nat.le_of_ble_eq_true rfl) rfl (go_pfi d_T_readLaw_30 fd_1_1 w218 (fun q => by cases q) e12 (go_aload_n 0 d_T_readLaw_33 rfl (go_bipush (v := (44 : Int32)) d_T_readLaw_34 (by decide) (go_callV0 (q := q_9) (st := []) [.int (44 : Int32)] (t_T_readLetter v0 (44 : Int32) h11 _ (onc_spec e14).2) mm_T_readLetter (by decide) d_T_readLaw_36 (onc_spec e14).1 rfl rfl w408 w410 w3 rfl (Nat.le_of_ble_eq_true rfl) rfl (go_aload_n 1 d_T_readLaw_39 rfl (go_aload_n 0 d_T_readLaw_40 rfl (go_iconst (v := (0 : Int32)) d_T_readLaw_41 (by decide) (go_iconst (v := (3 : Int32)) d_T_readLaw_42 (by decide) (go_callV1 (q := q_9) (st := [va_rf v1]) [.int (0 : Int32), .int (3 : Int32)] (t_T_readNumber F v0 (0 : Int32) (3 : Int32) h13 _ (onc_spec e16).2) mm_T_readNumber (by decide) d_T_readLaw_43 (onc_spec e16).1 rfl rfl w421 w423 w6 rfl (Nat.le_of_ble_eq_true rfl) rfl (go_pfi d_T_readLaw_46 fd_1_2 w220 (fun q => by cases q) e18 (go_aload_n 0 d_T_readLaw_49 rfl (go_bipush (v := (59 : Int32)) d_T_readLaw_50 (by decide) (go_callV0 (q := q_9) (st := []) [.int (59 : Int32)] (t_T_readLetter v0 (59 : Int32) h17 _ (onc_spec e20).2) mm_T_readLetter (by decide) d_T_readLaw_52 (onc_spec e20).1 rfl rfl w408 w410 w3 rfl (Nat.le_of_ble_eq_true rfl) rfl B)))))))))))))))))))))))))))))) ?_
  exact rt_eq0 hyp (rt_void d_T_readLaw_55 rfl)
/-! WideTurn.Tape.readDepth()I -/
def b_T_readDepth_22 : (Option Nat) → (MH) → (Option (Int32 × MH)) := fun v0 h => 
  Option.bind (gfi h v0 [9] 2) fun x1 =>
  Option.bind (onc h v0 9 (f_T_fail v0 (1 : Int32) x1 h)) fun h3 =>
  some ((0 : Int32), h3)
def f_T_readDepth (v0 : Option Nat) (h : MH) : Option (Int32 × MH) :=
  Option.bind (gfi h v0 [9] 2) fun x1 =>
  Option.bind (onc h v0 9 (f_T_letterAt v0 x1 h)) fun x3 =>
  if (x3 - (97 : Int32)) < 0 then
    b_T_readDepth_22 v0 h
  else
    if (x3 - (97 : Int32)) ≤ (9 : Int32) then
      Option.bind (gfi h v0 [9] 2) fun x7 =>
      Option.bind (pfv h v0 [9] 2 (.int (x7 + (1 : Int32)))) fun h9 =>
      some ((x3 - (97 : Int32)), h9)
    else
      b_T_readDepth_22 v0 h
set_option maxHeartbeats 4000000 in
set_option maxRecDepth 200000 in
theorem p_T_readDepth_22 {h0 : MH} (v0 : Option Nat) (h : MH) (r : (Int32 × MH)) : b_T_readDepth_22  v0 h = some r → Rt mi_T_readDepth 3 h0 22 [(0, va_rf v0)] [] h (some (.int r.1)) r.2 := by
  intro hyp
  unfold b_T_readDepth_22 at hyp
  obtain ⟨x1, e2, hyp⟩ := Option.bind_eq_some_iff.mp hyp
  obtain ⟨h3, e4, hyp⟩ := Option.bind_eq_some_iff.mp hyp
  refine rt_st (pc1 := 32) (fun _ _ B => go_aload_n 0 d_T_readDepth_22 rfl (go_iconst (v := (1 : Int32)) d_T_readDepth_23 (by decide) (go_aload_n 0 d_T_readDepth_24 rfl (go_gfi d_T_readDepth_25 fd_9_2 w106 e2 (go_callV0 (q := q_9) (st := []) [.int (1 : Int32), .int x1] (t_T_fail v0 (1 : Int32) x1 h _ (onc_spec e4).2) mm_T_fail (by decide) d_T_readDepth_28 (onc_spec e4).1 rfl rfl w417 w419 w5 rfl (Nat.le_of_ble_eq_true rfl) rfl (go_iconst (v := (0 : Int32)) d_T_readDepth_31 (by decide) B)))))) ?_
  exact rt_eqW Value.int hyp (rt_int d_T_readDepth_32 rfl)
set_option maxHeartbeats 4000000 in
set_option maxRecDepth 200000 in
theorem t_T_readDepth (v0 : Option Nat) (h : MH) (r : (Int32 × MH)) (hyp : f_T_readDepth v0 h = some r) : Mt mi_T_readDepth 3 [va_rf v0] h (some (.int r.1)) r.2 := by
  refine Mt.rt (lv := [(0, va_rf v0)]) (by decide +kernel) (by simp [lv_args, mj_rfc, mj_cti, mj_ctl]) (by simp [mj_rfc, mj_cti, mj_ctl]) ?_
  unfold f_T_readDepth at hyp
  obtain ⟨x1, e2, hyp⟩ := Option.bind_eq_some_iff.mp hyp
  obtain ⟨x3, e4, hyp⟩ := Option.bind_eq_some_iff.mp hyp
  refine rt_st (pc1 := 13) (fun _ _ B => go_aload_n 0 d_T_readDepth_0 rfl (go_aload_n 0 d_T_readDepth_1 rfl (go_gfi d_T_readDepth_2 fd_9_2 w106 e2 (go_callV1 (q := q_9) (st := []) [.int x1] (t_T_letterAt v0 x1 h _ (onc_spec e4).2) mm_T_letterAt (by decide) d_T_readDepth_5 (onc_spec e4).1 rfl rfl w412 w414 w4 rfl (Nat.le_of_ble_eq_true rfl) rfl (go_bipush (v := (97 : Int32)) d_T_readDepth_8 (by decide) (go_isub d_T_readDepth_10 (go_istore_n (lv1 := [(1, .int (x3 - (97 : Int32))), (0, va_rf v0)]) d_T_readDepth_11 (by decide) (by first | (simp [mj_s1, mj_s2, mj_rfc, mj_cti, mj_ctl]; done) | (simp [mj_s1, mj_s2, mj_rfc, mj_cti, mj_ctl]; decide)) (go_iload_n 0 d_T_readDepth_12 rfl B)))))))) ?_
  by_cases c5 : (x3 - (97 : Int32)) < 0
  · replace hyp := (if_pos c5).symm.trans hyp
    refine rt_st (pc1 := 22) (fun _ _ B => go_if_lt_t 22 d_T_readDepth_13 rfl c5 B) ?_
    refine rt_sub [1] (lv1 := [(0, va_rf v0)]) rfl ?_
    exact p_T_readDepth_22 _ _ r hyp
  · replace hyp := (if_neg c5).symm.trans hyp
    refine rt_st (pc1 := 19) (fun _ _ B => go_if_lt_f d_T_readDepth_13 rfl c5 (go_iload_n 0 d_T_readDepth_16 rfl (go_bipush (v := (9 : Int32)) d_T_readDepth_17 (by decide) B))) ?_
    by_cases c6 : (x3 - (97 : Int32)) ≤ (9 : Int32)
    · replace hyp := (if_pos c6).symm.trans hyp
      obtain ⟨x7, e8, hyp⟩ := Option.bind_eq_some_iff.mp hyp
      obtain ⟨h9, e10, hyp⟩ := Option.bind_eq_some_iff.mp hyp
      refine rt_st (pc1 := 44) (fun _ _ B => go_icmp_le_t 33 d_T_readDepth_19 rfl c6 (go_aload_n 1 d_T_readDepth_33 rfl (go_dup d_T_readDepth_34 (mj_rfc _) (go_gfi d_T_readDepth_35 fd_9_2 w106 e8 (go_iconst (v := (1 : Int32)) d_T_readDepth_38 (by decide) (go_iadd d_T_readDepth_39 (go_pfi d_T_readDepth_40 fd_9_2 w106 (fun q => by cases q) e10 (go_iload_n 0 d_T_readDepth_43 rfl B)))))))) ?_
      exact rt_eqW Value.int hyp (rt_int d_T_readDepth_44 rfl)
    · replace hyp := (if_neg c6).symm.trans hyp
      refine rt_st (pc1 := 22) (fun _ _ B => go_icmp_le_f d_T_readDepth_19 rfl c6 B) ?_
      refine rt_sub [1] (lv1 := [(0, va_rf v0)]) rfl ?_
      exact p_T_readDepth_22 _ _ r hyp
/-! WideTurn.Tape.readDepths(LWideTurn.Basin;)V -/
def b_T_readDepths_8 (F : Nat) : Nat → (Option Nat) → (Option Nat) → (Int32) → (MH) → (Option MH)
  | 0 => fun _ _ _ _ => none
  | n + 1 => fun v0 v1 v2 h => 
    if (24 : Int32) ≤ v2 then
      Option.bind (onc h v0 9 (f_T_readLetter v0 (59 : Int32) h)) fun h2 =>
      some h2
    else
      Option.bind (gfr h v1 [1] 9) fun x4 =>
      Option.bind (onc h v0 9 (f_T_readDepth v0 h)) fun x6 =>
      Option.bind (f_C_put x4 v2 x6.1 x6.2) fun h8 =>
      (b_T_readDepths_8 F n) v0 v1 (v2 + (1 : Int32)) h8
def f_T_readDepths (F : Nat) (v0 : Option Nat) (v1 : Option Nat) (h : MH) : Option MH :=
  Option.bind (onc h v0 9 (f_T_readLetter v0 (100 : Int32) h)) fun h1 =>
  b_T_readDepths_8 F F v0 v1 (0 : Int32) h1
set_option maxHeartbeats 4000000 in
set_option maxRecDepth 200000 in
theorem p_T_readDepths_8 (F : Nat) {h0 : MH} : ∀ (n : Nat) (v0 : Option Nat) (v1 : Option Nat) (v2 : Int32) (h : MH) (r : MH), b_T_readDepths_8 F  n v0 v1 v2 h = some r → Rt mi_T_readDepths 4 h0 8 [(0, va_rf v0), (1, va_rf v1), (2, .int v2)] [] h none r := by
  intro n
  induction n with
  | zero =>
    intro v0 v1 v2 h r hyp
    cases hyp
  | succ n ih =>
    intro v0 v1 v2 h r hyp
    unfold b_T_readDepths_8 at hyp
    refine rt_st (pc1 := 11) (fun _ _ B => go_iload_n 2 d_T_readDepths_8 rfl (go_bipush (v := (24 : Int32)) d_T_readDepths_9 (by decide) B)) ?_
    by_cases c1 : (24 : Int32) ≤ v2
    · replace hyp := (if_pos c1).symm.trans hyp
      obtain ⟨h2, e3, hyp⟩ := Option.bind_eq_some_iff.mp hyp
      refine rt_st (pc1 := 38) (fun _ _ B => go_icmp_ge_t 32 d_T_readDepths_11 rfl c1 (go_aload_n 0 d_T_readDepths_32 rfl (go_bipush (v := (59 : Int32)) d_T_readDepths_33 (by decide) (go_callV0 (q := q_9) (st := []) [.int (59 : Int32)] (t_T_readLetter v0 (59 : Int32) h _ (onc_spec e3).2) mm_T_readLetter (by decide) d_T_readDepths_35 (onc_spec e3).1 rfl rfl w408 w410 w3 rfl (Nat.le_of_ble_eq_true rfl) rfl B)))) ?_
      exact rt_eq0 hyp (rt_void d_T_readDepths_38 rfl)
    · replace hyp := (if_neg c1).symm.trans hyp
      obtain ⟨x4, e5, hyp⟩ := Option.bind_eq_some_iff.mp hyp
      obtain ⟨x6, e7, hyp⟩ := Option.bind_eq_some_iff.mp hyp
      obtain ⟨h8, e9, hyp⟩ := Option.bind_eq_some_iff.mp hyp
      refine rt_st (pc1 := 8) (fun _ _ B => go_icmp_ge_f d_T_readDepths_11 rfl c1 (go_aload_n 1 d_T_readDepths_14 rfl (go_gfr d_T_readDepths_15 fd_1_9 w248 e5 (go_iload_n 2 d_T_readDepths_18 rfl (go_aload_n 0 d_T_readDepths_19 rfl (go_callV1 (q := q_9) (st := [.int v2, va_rf x4]) [] (t_T_readDepth v0 h _ (onc_spec e7).2) mm_T_readDepth (by decide) d_T_readDepths_20 (onc_spec e7).1 rfl rfl w432 w434 w8 rfl (Nat.le_of_ble_eq_true rfl) rfl (go_callSN0 (st := []) [va_rf x4, .int v2, .int x6.1] (t_C_put x4 v2 x6.1 x6.2 _ e9) mm_C_put (by decide) d_T_readDepths_23 w386 w327 rfl (Nat.le_of_ble_eq_true rfl) rfl (go_iinc (v := (v2 + (1 : Int32))) (lv1 := [(2, .int (v2 + (1 : Int32))), (0, va_rf v0), (1, va_rf v1)]) 2 d_T_readDepths_26 rfl rfl (by decide) (by first | (simp [mj_s1, mj_s2, mj_rfc, mj_cti, mj_ctl]; done) | (simp [mj_s1, mj_s2, mj_rfc, mj_cti, mj_ctl]; decide)) (go_goto 8 d_T_readDepths_29 rfl B))))))))) ?_
      refine rt_sub [1, 2, 0] (lv1 := [(0, va_rf v0), (1, va_rf v1), (2, .int (v2 + (1 : Int32)))]) rfl ?_
      exact ih _ _ _ _ _ hyp
set_option maxHeartbeats 4000000 in
set_option maxRecDepth 200000 in
theorem t_T_readDepths (F : Nat) (v0 : Option Nat) (v1 : Option Nat) (h : MH) (r : MH) (hyp : f_T_readDepths F v0 v1 h = some r) : Mt mi_T_readDepths 4 [va_rf v0, va_rf v1] h none r := by
  refine Mt.rt (lv := [(0, va_rf v0), (1, va_rf v1)]) (by decide +kernel) (by simp [lv_args, mj_rfc, mj_cti, mj_ctl]) (by simp [mj_rfc, mj_cti, mj_ctl]) ?_
  unfold f_T_readDepths at hyp
  obtain ⟨h1, e2, hyp⟩ := Option.bind_eq_some_iff.mp hyp
  refine rt_st (pc1 := 8) (fun _ _ B => go_aload_n 0 d_T_readDepths_0 rfl (go_bipush (v := (100 : Int32)) d_T_readDepths_1 (by decide) (go_callV0 (q := q_9) (st := []) [.int (100 : Int32)] (t_T_readLetter v0 (100 : Int32) h _ (onc_spec e2).2) mm_T_readLetter (by decide) d_T_readDepths_3 (onc_spec e2).1 rfl rfl w408 w410 w3 rfl (Nat.le_of_ble_eq_true rfl) rfl (go_iconst (v := (0 : Int32)) d_T_readDepths_6 (by decide) (go_istore_n (lv1 := [(2, .int (0 : Int32)), (0, va_rf v0), (1, va_rf v1)]) d_T_readDepths_7 (by decide) (by first | (simp [mj_s1, mj_s2, mj_rfc, mj_cti, mj_ctl]; done) | (simp [mj_s1, mj_s2, mj_rfc, mj_cti, mj_ctl]; decide)) B))))) ?_
  refine rt_sub [1, 2, 0] (lv1 := [(0, va_rf v0), (1, va_rf v1), (2, .int (0 : Int32))]) rfl ?_
  exact p_T_readDepths_8 F F _ _ _ _ r hyp
/-! WideTurn.Tape.readBoat(LWideTurn.Basin;)V -/
def f_T_readBoat (F : Nat) (v0 : Option Nat) (v1 : Option Nat) (h : MH) : Option MH :=
  Option.bind (onc h v0 9 (f_T_readLetter v0 (98 : Int32) h)) fun h1 =>
  Option.bind (onc h1 v0 9 (f_T_readNumber F v0 (0 : Int32) (23 : Int32) h1)) fun x3 =>
  Option.bind (pfv x3.2 v1 [1] 3 (.int x3.1)) fun h5 =>
  Option.bind (onc h5 v0 9 (f_T_readLetter v0 (44 : Int32) h5)) fun h7 =>
  Option.bind (onc h7 v0 9 (f_T_readNumber F v0 (0 : Int32) (7 : Int32) h7)) fun x9 =>
  Option.bind (pfv x9.2 v1 [1] 4 (.int x9.1)) fun h11 =>
  Option.bind (onc h11 v0 9 (f_T_readLetter v0 (59 : Int32) h11)) fun h13 =>
  some h13
set_option maxHeartbeats 4000000 in
set_option maxRecDepth 200000 in
theorem t_T_readBoat (F : Nat) (v0 : Option Nat) (v1 : Option Nat) (h : MH) (r : MH) (hyp : f_T_readBoat F v0 v1 h = some r) : Mt mi_T_readBoat 4 [va_rf v0, va_rf v1] h none r := by
  refine Mt.rt (lv := [(0, va_rf v0), (1, va_rf v1)]) (by decide +kernel) (by simp [lv_args, mj_rfc, mj_cti, mj_ctl]) (by simp [mj_rfc, mj_cti, mj_ctl]) ?_
  unfold f_T_readBoat at hyp
  obtain ⟨h1, e2, hyp⟩ := Option.bind_eq_some_iff.mp hyp
  obtain ⟨x3, e4, hyp⟩ := Option.bind_eq_some_iff.mp hyp
  obtain ⟨h5, e6, hyp⟩ := Option.bind_eq_some_iff.mp hyp
  obtain ⟨h7, e8, hyp⟩ := Option.bind_eq_some_iff.mp hyp
  obtain ⟨x9, e10, hyp⟩ := Option.bind_eq_some_iff.mp hyp
  obtain ⟨h11, e12, hyp⟩ := Option.bind_eq_some_iff.mp hyp
  obtain ⟨h13, e14, hyp⟩ := Option.bind_eq_some_iff.mp hyp
  refine rt_st (pc1 := 40) (fun _ _ B => go_aload_n 0 d_T_readBoat_0 rfl (go_bipush (v := (98 : Int32)) d_T_readBoat_1 (by decide) (go_callV0 (q := q_9) (st := []) [.int (98 : Int32)] (t_T_readLetter v0 (98 : Int32) h _ (onc_spec e2).2) mm_T_readLetter (by decide) d_T_readBoat_3 (onc_spec e2).1 rfl rfl w408 w410 w3 rfl (Nat.le_of_ble_eq_true rfl) rfl (go_aload_n 1 d_T_readBoat_6 rfl (go_aload_n 0 d_T_readBoat_7 rfl (go_iconst (v := (0 : Int32)) d_T_readBoat_8 (by decide) (go_bipush (v := (23 : Int32)) d_T_readBoat_9 (by decide) (go_callV1 (q := q_9) (st := [va_rf v1]) [.int (0 : Int32), .int (23 : Int32)] (t_T_readNumber F v0 (0 : Int32) (23 : Int32) h1 _ (onc_spec e4).2) mm_T_readNumber (by decide) d_T_readBoat_11 (onc_spec e4).1 rfl rfl w421 w423 w6 rfl (Nat.le_of_ble_eq_true rfl) rfl (go_pfi d_T_readBoat_14 fd_1_3 w225 (fun q => by cases q) e6 (go_aload_n 0 d_T_readBoat_17 rfl (go_bipush (v := (44 : Int32)) d_T_readBoat_18 (by decide) (go_callV0 (q := q_9) (st := []) [.int (44 : Int32)] (t_T_readLetter v0 (44 : Int32) h5 _ (onc_spec e8).2) mm_T_readLetter (by decide) d_T_readBoat_20 (onc_spec e8).1 rfl rfl w408 w410 w3 rfl (Nat.le_of_ble_eq_true rfl) rfl (go_aload_n 1 d_T_readBoat_23 rfl (go_aload_n 0 d_T_readBoat_24 rfl (go_iconst (v := (0 : Int32)) d_T_readBoat_25 (by decide) (go_bipush (v := (7 : Int32)) d_T_readBoat_26 (by decide) (go_callV1 (q := q_9) (st := [va_rf v1]) [.int (0 : Int32), .int (7 : Int32)] (t_T_readNumber F v0 (0 : Int32) (7 : Int32) h7 _ (onc_spec e10).2) mm_T_readNumber (by decide) d_T_readBoat_28 (onc_spec e10).1 rfl rfl w421 w423 w6 rfl (Nat.le_of_ble_eq_true rfl) rfl (go_pfi d_T_readBoat_31 fd_1_4 w230 (fun q => by cases q) e12 (go_aload_n 0 d_T_readBoat_34 rfl (go_bipush (v := (59 : Int32)) d_T_readBoat_35 (by decide) (go_callV0 (q := q_9) (st := []) [.int (59 : Int32)] (t_T_readLetter v0 (59 : Int32) h11 _ (onc_spec e14).2) mm_T_readLetter (by decide) d_T_readBoat_37 (onc_spec e14).1 rfl rfl w408 w410 w3 rfl (Nat.le_of_ble_eq_true rfl) rfl B))))))))))))))))))))) ?_
  exact rt_eq0 hyp (rt_void d_T_readBoat_40 rfl)
/-! WideTurn.Tape.readMoored(LWideTurn.Basin;)V -/
def b_T_readMoored_87 (F : Nat) (k2 : (Option Nat) → (Option Nat) → Int32 → MH → (Option MH)) : (Option Nat) → (Option Nat) → (Int32) → (Int32) → (MH) → (Option MH) := fun v0 v1 v2 v4 h => 
  Option.bind (gfi h v1 [1] 7) fun x1 =>
  Option.bind (pfv h v1 [1] 7 (.int (x1 ||| ((1 : Int32) <<< (v4 &&& 31))))) fun h3 =>
  Option.bind (onc h3 v0 9 (f_T_readLetter v0 (59 : Int32) h3)) fun h5 =>
  k2 v0 v1 (v2 + (1 : Int32)) h5
def b_T_readMoored_41 (F : Nat) (k2 : (Option Nat) → (Option Nat) → Int32 → MH → (Option MH)) : (Option Nat) → (Option Nat) → (Int32) → (MH) → (Option MH) := fun v0 v1 v2 h => 
  Option.bind (onc h v0 9 (f_T_readLetter v0 (109 : Int32) h)) fun h1 =>
  Option.bind (gfi h1 v0 [9] 2) fun x3 =>
  Option.bind (onc h1 v0 9 (f_T_readNumber F v0 (0 : Int32) (23 : Int32) h1)) fun x5 =>
  Option.bind (gfi x5.2 v0 [9] 3) fun x7 =>
  if x7 = 0 then
    Option.bind (gfi x5.2 v1 [1] 7) fun x10 =>
    if (f_C_bit x10 x5.1) = (1 : Int32) then
      Option.bind (onc x5.2 v0 9 (f_T_fail v0 (2 : Int32) x3 x5.2)) fun h13 =>
      b_T_readMoored_87 F k2 v0 v1 v2 x5.1 h13
    else
      b_T_readMoored_87 F k2 v0 v1 v2 x5.1 x5.2
  else
    b_T_readMoored_87 F k2 v0 v1 v2 x5.1 x5.2
def b_T_readMoored_2 (F : Nat) : Nat → (Option Nat) → (Option Nat) → (Int32) → (MH) → (Option MH)
  | 0 => fun _ _ _ _ => none
  | n + 1 => fun v0 v1 v2 h => 
    if (4 : Int32) < v2 then
      some h
    else
      Option.bind (gfi h v0 [9] 3) fun x2 =>
      if x2 = 0 then
        Option.bind (gfi h v0 [9] 2) fun x5 =>
        Option.bind (onc h v0 9 (f_T_letterAt v0 x5 h)) fun x7 =>
        if x7 = (109 : Int32) then
          if v2 = (4 : Int32) then
            Option.bind (gfi h v0 [9] 2) fun x11 =>
            Option.bind (onc h v0 9 (f_T_fail v0 (3 : Int32) x11 h)) fun h13 =>
            b_T_readMoored_41 F (b_T_readMoored_2 F n) v0 v1 v2 h13
          else
            b_T_readMoored_41 F (b_T_readMoored_2 F n) v0 v1 v2 h
        else
          some h
      else
        some h
def f_T_readMoored (F : Nat) (v0 : Option Nat) (v1 : Option Nat) (h : MH) : Option MH :=
  b_T_readMoored_2 F F v0 v1 (0 : Int32) h
set_option maxHeartbeats 4000000 in
set_option maxRecDepth 200000 in
theorem p_T_readMoored_87 (F : Nat) {h0 : MH} (k2 : (Option Nat) → (Option Nat) → Int32 → MH → (Option MH)) (hk2 : ∀ (v0 : Option Nat) (v1 : Option Nat) (v2 : Int32) (h : MH) (r : MH), k2 v0 v1 v2 h = some r → Rt mi_T_readMoored 4 h0 2 [(0, va_rf v0), (1, va_rf v1), (2, .int v2)] [] h none r) (v0 : Option Nat) (v1 : Option Nat) (v2 : Int32) (v4 : Int32) (h : MH) (r : MH) : b_T_readMoored_87 F k2  v0 v1 v2 v4 h = some r → Rt mi_T_readMoored 4 h0 87 [(0, va_rf v0), (1, va_rf v1), (2, .int v2), (4, .int v4)] [] h none r := by
  intro hyp
  unfold b_T_readMoored_87 at hyp
  obtain ⟨x1, e2, hyp⟩ := Option.bind_eq_some_iff.mp hyp
  obtain ⟨h3, e4, hyp⟩ := Option.bind_eq_some_iff.mp hyp
  obtain ⟨h5, e6, hyp⟩ := Option.bind_eq_some_iff.mp hyp
  refine rt_st (pc1 := 2) (fun _ _ B => go_aload_n 1 d_T_readMoored_87 rfl (go_dup d_T_readMoored_88 (mj_rfc _) (go_gfi d_T_readMoored_89 fd_1_7 w241 e2 (go_iconst (v := (1 : Int32)) d_T_readMoored_92 (by decide) (go_iload 3 d_T_readMoored_93 rfl (go_ishl d_T_readMoored_95 (go_ior d_T_readMoored_96 (go_pfi d_T_readMoored_97 fd_1_7 w241 (fun q => by cases q) e4 (go_aload_n 0 d_T_readMoored_100 rfl (go_bipush (v := (59 : Int32)) d_T_readMoored_101 (by decide) (go_callV0 (q := q_9) (st := []) [.int (59 : Int32)] (t_T_readLetter v0 (59 : Int32) h3 _ (onc_spec e6).2) mm_T_readLetter (by decide) d_T_readMoored_103 (onc_spec e6).1 rfl rfl w408 w410 w3 rfl (Nat.le_of_ble_eq_true rfl) rfl (go_iinc (v := (v2 + (1 : Int32))) (lv1 := [(2, .int (v2 + (1 : Int32))), (0, va_rf v0), (1, va_rf v1), (4, .int v4)]) 2 d_T_readMoored_106 rfl rfl (by decide) (by first | (simp [mj_s1, mj_s2, mj_rfc, mj_cti, mj_ctl]; done) | (simp [mj_s1, mj_s2, mj_rfc, mj_cti, mj_ctl]; decide)) (go_goto 2 d_T_readMoored_109 rfl B))))))))))))) ?_
  refine rt_sub [1, 2, 0] (lv1 := [(0, va_rf v0), (1, va_rf v1), (2, .int (v2 + (1 : Int32)))]) rfl ?_
  exact hk2 _ _ _ _ _ hyp
set_option maxHeartbeats 4000000 in
set_option maxRecDepth 200000 in
theorem p_T_readMoored_41 (F : Nat) {h0 : MH} (k2 : (Option Nat) → (Option Nat) → Int32 → MH → (Option MH)) (hk2 : ∀ (v0 : Option Nat) (v1 : Option Nat) (v2 : Int32) (h : MH) (r : MH), k2 v0 v1 v2 h = some r → Rt mi_T_readMoored 4 h0 2 [(0, va_rf v0), (1, va_rf v1), (2, .int v2)] [] h none r) (v0 : Option Nat) (v1 : Option Nat) (v2 : Int32) (h : MH) (r : MH) : b_T_readMoored_41 F k2  v0 v1 v2 h = some r → Rt mi_T_readMoored 4 h0 41 [(0, va_rf v0), (1, va_rf v1), (2, .int v2)] [] h none r := by
  intro hyp
  unfold b_T_readMoored_41 at hyp
  obtain ⟨h1, e2, hyp⟩ := Option.bind_eq_some_iff.mp hyp
  obtain ⟨x3, e4, hyp⟩ := Option.bind_eq_some_iff.mp hyp
  obtain ⟨x5, e6, hyp⟩ := Option.bind_eq_some_iff.mp hyp
  obtain ⟨x7, e8, hyp⟩ := Option.bind_eq_some_iff.mp hyp
  refine rt_st (pc1 := 65) (fun _ _ B => go_aload_n 0 d_T_readMoored_41 rfl (go_bipush (v := (109 : Int32)) d_T_readMoored_42 (by decide) (go_callV0 (q := q_9) (st := []) [.int (109 : Int32)] (t_T_readLetter v0 (109 : Int32) h _ (onc_spec e2).2) mm_T_readLetter (by decide) d_T_readMoored_44 (onc_spec e2).1 rfl rfl w408 w410 w3 rfl (Nat.le_of_ble_eq_true rfl) rfl (go_aload_n 0 d_T_readMoored_47 rfl (go_gfi d_T_readMoored_48 fd_9_2 w106 e4 (go_istore_n (lv1 := [(3, .int x3), (0, va_rf v0), (1, va_rf v1), (2, .int v2)]) d_T_readMoored_51 (by decide) rfl (go_aload_n 1 d_T_readMoored_52 rfl (go_iconst (v := (0 : Int32)) d_T_readMoored_53 (by decide) (go_bipush (v := (23 : Int32)) d_T_readMoored_54 (by decide) (go_callV1 (q := q_9) (st := []) [.int (0 : Int32), .int (23 : Int32)] (t_T_readNumber F v0 (0 : Int32) (23 : Int32) h1 _ (onc_spec e6).2) mm_T_readNumber (by decide) d_T_readMoored_56 (onc_spec e6).1 rfl rfl w421 w423 w6 rfl (Nat.le_of_ble_eq_true rfl) rfl (go_istore (lv1 := [(4, .int x5.1), (3, .int x3), (0, va_rf v0), (1, va_rf v1), (2, .int v2)]) d_T_readMoored_59 (by decide) rfl (go_aload_n 2 d_T_readMoored_61 rfl (go_gfi d_T_readMoored_62 fd_9_3 w107 e8 B))))))))))))) ?_
  by_cases c9 : x7 = 0
  · replace hyp := (if_pos c9).symm.trans hyp
    obtain ⟨x10, e11, hyp⟩ := Option.bind_eq_some_iff.mp hyp
    refine rt_st (pc1 := 78) (fun _ _ B => go_if_ne_f d_T_readMoored_65 rfl c9 (go_aload_n 3 d_T_readMoored_68 rfl (go_gfi d_T_readMoored_69 fd_1_7 w241 e11 (go_iload 0 d_T_readMoored_72 rfl (go_callSN1 (st := []) [.int x10, .int x5.1] (t_C_bit x10 x5.1 x5.2) mm_C_bit (by decide) d_T_readMoored_74 w444 w445 rfl (Nat.le_of_ble_eq_true rfl) rfl (go_iconst (v := (1 : Int32)) d_T_readMoored_77 (by decide) B)))))) ?_
    by_cases c12 : (f_C_bit x10 x5.1) = (1 : Int32)
    · replace hyp := (if_pos c12).symm.trans hyp
      obtain ⟨h13, e14, hyp⟩ := Option.bind_eq_some_iff.mp hyp
      refine rt_st (pc1 := 87) (fun _ _ B => go_icmp_ne_f d_T_readMoored_78 rfl c12 (go_aload_n 2 d_T_readMoored_81 rfl (go_iconst (v := (2 : Int32)) d_T_readMoored_82 (by decide) (go_iload_n 1 d_T_readMoored_83 rfl (go_callV0 (q := q_9) (st := []) [.int (2 : Int32), .int x3] (t_T_fail v0 (2 : Int32) x3 x5.2 _ (onc_spec e14).2) mm_T_fail (by decide) d_T_readMoored_84 (onc_spec e14).1 rfl rfl w417 w419 w5 rfl (Nat.le_of_ble_eq_true rfl) rfl B))))) ?_
      refine rt_sub [2, 3, 4, 0] (lv1 := [(0, va_rf v0), (1, va_rf v1), (2, .int v2), (4, .int x5.1)]) rfl ?_
      exact p_T_readMoored_87 F k2 hk2 _ _ _ _ _ r hyp
    · replace hyp := (if_neg c12).symm.trans hyp
      refine rt_st (pc1 := 87) (fun _ _ B => go_icmp_ne_t 87 d_T_readMoored_78 rfl c12 B) ?_
      refine rt_sub [2, 3, 4, 0] (lv1 := [(0, va_rf v0), (1, va_rf v1), (2, .int v2), (4, .int x5.1)]) rfl ?_
      exact p_T_readMoored_87 F k2 hk2 _ _ _ _ _ r hyp
  · replace hyp := (if_neg c9).symm.trans hyp
    refine rt_st (pc1 := 87) (fun _ _ B => go_if_ne_t 87 d_T_readMoored_65 rfl c9 B) ?_
    refine rt_sub [2, 3, 4, 0] (lv1 := [(0, va_rf v0), (1, va_rf v1), (2, .int v2), (4, .int x5.1)]) rfl ?_
    exact p_T_readMoored_87 F k2 hk2 _ _ _ _ _ r hyp
set_option maxHeartbeats 4000000 in
set_option maxRecDepth 200000 in
theorem p_T_readMoored_2 (F : Nat) {h0 : MH} : ∀ (n : Nat) (v0 : Option Nat) (v1 : Option Nat) (v2 : Int32) (h : MH) (r : MH), b_T_readMoored_2 F  n v0 v1 v2 h = some r → Rt mi_T_readMoored 4 h0 2 [(0, va_rf v0), (1, va_rf v1), (2, .int v2)] [] h none r := by
  intro n
  induction n with
  | zero =>
    intro v0 v1 v2 h r hyp
    cases hyp
  | succ n ih =>
    intro v0 v1 v2 h r hyp
    unfold b_T_readMoored_2 at hyp
    refine rt_st (pc1 := 4) (fun _ _ B => go_iload_n 2 d_T_readMoored_2 rfl (go_iconst (v := (4 : Int32)) d_T_readMoored_3 (by decide) B)) ?_
    by_cases c1 : (4 : Int32) < v2
    · replace hyp := (if_pos c1).symm.trans hyp
      refine rt_st (pc1 := 112) (fun _ _ B => go_icmp_gt_t 112 d_T_readMoored_4 rfl c1 B) ?_
      exact rt_eq0 hyp (rt_void d_T_readMoored_112 rfl)
    · replace hyp := (if_neg c1).symm.trans hyp
      obtain ⟨x2, e3, hyp⟩ := Option.bind_eq_some_iff.mp hyp
      refine rt_st (pc1 := 11) (fun _ _ B => go_icmp_gt_f d_T_readMoored_4 rfl c1 (go_aload_n 0 d_T_readMoored_7 rfl (go_gfi d_T_readMoored_8 fd_9_3 w107 e3 B))) ?_
      by_cases c4 : x2 = 0
      · replace hyp := (if_pos c4).symm.trans hyp
        obtain ⟨x5, e6, hyp⟩ := Option.bind_eq_some_iff.mp hyp
        obtain ⟨x7, e8, hyp⟩ := Option.bind_eq_some_iff.mp hyp
        refine rt_st (pc1 := 24) (fun _ _ B => go_if_ne_f d_T_readMoored_11 rfl c4 (go_aload_n 0 d_T_readMoored_14 rfl (go_aload_n 0 d_T_readMoored_15 rfl (go_gfi d_T_readMoored_16 fd_9_2 w106 e6 (go_callV1 (q := q_9) (st := []) [.int x5] (t_T_letterAt v0 x5 h _ (onc_spec e8).2) mm_T_letterAt (by decide) d_T_readMoored_19 (onc_spec e8).1 rfl rfl w412 w414 w4 rfl (Nat.le_of_ble_eq_true rfl) rfl (go_bipush (v := (109 : Int32)) d_T_readMoored_22 (by decide) B)))))) ?_
        by_cases c9 : x7 = (109 : Int32)
        · replace hyp := (if_pos c9).symm.trans hyp
          refine rt_st (pc1 := 29) (fun _ _ B => go_icmp_ne_f d_T_readMoored_24 rfl c9 (go_iload_n 2 d_T_readMoored_27 rfl (go_iconst (v := (4 : Int32)) d_T_readMoored_28 (by decide) B))) ?_
          by_cases c10 : v2 = (4 : Int32)
          · replace hyp := (if_pos c10).symm.trans hyp
            obtain ⟨x11, e12, hyp⟩ := Option.bind_eq_some_iff.mp hyp
            obtain ⟨h13, e14, hyp⟩ := Option.bind_eq_some_iff.mp hyp
            refine rt_st (pc1 := 41) (fun _ _ B => go_icmp_ne_f d_T_readMoored_29 rfl c10 (go_aload_n 0 d_T_readMoored_32 rfl (go_iconst (v := (3 : Int32)) d_T_readMoored_33 (by decide) (go_aload_n 0 d_T_readMoored_34 rfl (go_gfi d_T_readMoored_35 fd_9_2 w106 e12 (go_callV0 (q := q_9) (st := []) [.int (3 : Int32), .int x11] (t_T_fail v0 (3 : Int32) x11 h _ (onc_spec e14).2) mm_T_fail (by decide) d_T_readMoored_38 (onc_spec e14).1 rfl rfl w417 w419 w5 rfl (Nat.le_of_ble_eq_true rfl) rfl B)))))) ?_
            exact p_T_readMoored_41 F (b_T_readMoored_2 F n) (fun a0 a1 a2 a3 r hyp => ih a0 a1 a2 a3 r hyp) _ _ _ _ r hyp
          · replace hyp := (if_neg c10).symm.trans hyp
            refine rt_st (pc1 := 41) (fun _ _ B => go_icmp_ne_t 41 d_T_readMoored_29 rfl c10 B) ?_
            exact p_T_readMoored_41 F (b_T_readMoored_2 F n) (fun a0 a1 a2 a3 r hyp => ih a0 a1 a2 a3 r hyp) _ _ _ _ r hyp
        · replace hyp := (if_neg c9).symm.trans hyp
          refine rt_st (pc1 := 112) (fun _ _ B => go_icmp_ne_t 112 d_T_readMoored_24 rfl c9 B) ?_
          exact rt_eq0 hyp (rt_void d_T_readMoored_112 rfl)
      · replace hyp := (if_neg c4).symm.trans hyp
        refine rt_st (pc1 := 112) (fun _ _ B => go_if_ne_t 112 d_T_readMoored_11 rfl c4 B) ?_
        exact rt_eq0 hyp (rt_void d_T_readMoored_112 rfl)
set_option maxHeartbeats 4000000 in
set_option maxRecDepth 200000 in
theorem t_T_readMoored (F : Nat) (v0 : Option Nat) (v1 : Option Nat) (h : MH) (r : MH) (hyp : f_T_readMoored F v0 v1 h = some r) : Mt mi_T_readMoored 4 [va_rf v0, va_rf v1] h none r := by
  refine Mt.rt (lv := [(0, va_rf v0), (1, va_rf v1)]) (by decide +kernel) (by simp [lv_args, mj_rfc, mj_cti, mj_ctl]) (by simp [mj_rfc, mj_cti, mj_ctl]) ?_
  unfold f_T_readMoored at hyp
  refine rt_st (pc1 := 2) (fun _ _ B => go_iconst (v := (0 : Int32)) d_T_readMoored_0 (by decide) (go_istore_n (lv1 := [(2, .int (0 : Int32)), (0, va_rf v0), (1, va_rf v1)]) d_T_readMoored_1 (by decide) (by first | (simp [mj_s1, mj_s2, mj_rfc, mj_cti, mj_ctl]; done) | (simp [mj_s1, mj_s2, mj_rfc, mj_cti, mj_ctl]; decide)) B)) ?_
  refine rt_sub [1, 2, 0] (lv1 := [(0, va_rf v0), (1, va_rf v1), (2, .int (0 : Int32))]) rfl ?_
  exact p_T_readMoored_2 F F _ _ _ _ r hyp
/-! WideTurn.Tape.isSort(I)Z -/
def f_T_isSort (v0 : Int32) : Int32 :=
  if v0 = (115 : Int32) then
    (1 : Int32)
  else
    if v0 = (112 : Int32) then
      (1 : Int32)
    else
      if v0 = (114 : Int32) then
        (1 : Int32)
      else
        if v0 = (104 : Int32) then
          (1 : Int32)
        else
          if v0 = (108 : Int32) then
            (1 : Int32)
          else
            (0 : Int32)
set_option maxHeartbeats 4000000 in
set_option maxRecDepth 200000 in
theorem t_T_isSort (v0 : Int32) (h : MH) : Mt mi_T_isSort 1 [.int v0] h (some (.int (f_T_isSort v0))) h := by
  refine Mt.rt (lv := [(0, .int v0)]) (by decide +kernel) (by simp [lv_args, mj_rfc, mj_cti, mj_ctl]) (by simp [mj_rfc, mj_cti, mj_ctl]) ?_
  unfold f_T_isSort
  refine rt_st (pc1 := 3) (fun _ _ B => go_iload_n 0 d_T_isSort_0 rfl (go_bipush (v := (115 : Int32)) d_T_isSort_1 (by decide) B)) ?_
  by_cases c1 : v0 = (115 : Int32)
  · rw [if_pos c1]
    refine rt_st (pc1 := 35) (fun _ _ B => go_icmp_eq_t 30 d_T_isSort_3 rfl c1 (go_iconst (v := (1 : Int32)) d_T_isSort_30 (by decide) (go_goto 35 d_T_isSort_31 rfl B))) ?_
    exact rt_bool d_T_isSort_35 rfl (by decide)
  · rw [if_neg c1]
    refine rt_st (pc1 := 9) (fun _ _ B => go_icmp_eq_f d_T_isSort_3 rfl c1 (go_iload_n 0 d_T_isSort_6 rfl (go_bipush (v := (112 : Int32)) d_T_isSort_7 (by decide) B))) ?_
    by_cases c2 : v0 = (112 : Int32)
    · rw [if_pos c2]
      refine rt_st (pc1 := 35) (fun _ _ B => go_icmp_eq_t 30 d_T_isSort_9 rfl c2 (go_iconst (v := (1 : Int32)) d_T_isSort_30 (by decide) (go_goto 35 d_T_isSort_31 rfl B))) ?_
      exact rt_bool d_T_isSort_35 rfl (by decide)
    · rw [if_neg c2]
      refine rt_st (pc1 := 15) (fun _ _ B => go_icmp_eq_f d_T_isSort_9 rfl c2 (go_iload_n 0 d_T_isSort_12 rfl (go_bipush (v := (114 : Int32)) d_T_isSort_13 (by decide) B))) ?_
      by_cases c3 : v0 = (114 : Int32)
      · rw [if_pos c3]
        refine rt_st (pc1 := 35) (fun _ _ B => go_icmp_eq_t 30 d_T_isSort_15 rfl c3 (go_iconst (v := (1 : Int32)) d_T_isSort_30 (by decide) (go_goto 35 d_T_isSort_31 rfl B))) ?_
        exact rt_bool d_T_isSort_35 rfl (by decide)
      · rw [if_neg c3]
        refine rt_st (pc1 := 21) (fun _ _ B => go_icmp_eq_f d_T_isSort_15 rfl c3 (go_iload_n 0 d_T_isSort_18 rfl (go_bipush (v := (104 : Int32)) d_T_isSort_19 (by decide) B))) ?_
        by_cases c4 : v0 = (104 : Int32)
        · rw [if_pos c4]
          refine rt_st (pc1 := 35) (fun _ _ B => go_icmp_eq_t 30 d_T_isSort_21 rfl c4 (go_iconst (v := (1 : Int32)) d_T_isSort_30 (by decide) (go_goto 35 d_T_isSort_31 rfl B))) ?_
          exact rt_bool d_T_isSort_35 rfl (by decide)
        · rw [if_neg c4]
          refine rt_st (pc1 := 27) (fun _ _ B => go_icmp_eq_f d_T_isSort_21 rfl c4 (go_iload_n 0 d_T_isSort_24 rfl (go_bipush (v := (108 : Int32)) d_T_isSort_25 (by decide) B))) ?_
          by_cases c5 : v0 = (108 : Int32)
          · rw [if_pos c5]
            refine rt_st (pc1 := 35) (fun _ _ B => go_icmp_ne_f d_T_isSort_27 rfl c5 (go_iconst (v := (1 : Int32)) d_T_isSort_30 (by decide) (go_goto 35 d_T_isSort_31 rfl B))) ?_
            exact rt_bool d_T_isSort_35 rfl (by decide)
          · rw [if_neg c5]
            refine rt_st (pc1 := 35) (fun _ _ B => go_icmp_ne_t 34 d_T_isSort_27 rfl c5 (go_iconst (v := (0 : Int32)) d_T_isSort_34 (by decide) B)) ?_
            exact rt_bool d_T_isSort_35 rfl (by decide)
set_option maxHeartbeats 4000000 in
set_option maxRecDepth 200000 in
theorem z_T_isSort (v0 : Int32) : (f_T_isSort v0) &&& 1 = f_T_isSort v0 := by
  unfold f_T_isSort
  repeat' split
  all_goals first | decide | skip
/-! WideTurn.Tape.handOf(III)LWideTurn.Hand; -/
def f_T_handOf (v0 : Int32) (v1 : Int32) (v2 : Int32) (h : MH) : Option (Option Nat × MH) :=
  if v0 = (104 : Int32) then
    Option.bind (newO h 7) fun h2 =>
    Option.bind (f_Sh_init (some h.2.1) v1 v2 h2) fun h4 =>
    some ((some h.2.1), h4)
  else
  if v0 = (112 : Int32) then
    Option.bind (newO h 3) fun h7 =>
    Option.bind (f_Po_init (some h.2.1) v1 v2 h7) fun h9 =>
    some ((some h.2.1), h9)
  else
  if v0 = (114 : Int32) then
    Option.bind (newO h 4) fun h12 =>
    Option.bind (f_Ro_init (some h.2.1) v1 v2 h12) fun h14 =>
    some ((some h.2.1), h14)
  else
  if v0 = (115 : Int32) then
    Option.bind (newO h 8) fun h17 =>
    Option.bind (f_Sw_init (some h.2.1) v1 v2 (3 : Int32) h17) fun h19 =>
    some ((some h.2.1), h19)
  else
  Option.bind (newO h 2) fun h21 =>
  Option.bind (f_Lf_init (some h.2.1) v1 v2 h21) fun h23 =>
  some ((some h.2.1), h23)
set_option maxHeartbeats 4000000 in
set_option maxRecDepth 200000 in
theorem t_T_handOf (v0 : Int32) (v1 : Int32) (v2 : Int32) (h : MH) (r : (Option Nat × MH)) (hyp : f_T_handOf v0 v1 v2 h = some r) : Mt mi_T_handOf 5 [.int v0, .int v1, .int v2] h (some (va_rf r.1)) r.2 := by
  refine Mt.rt (lv := [(0, .int v0), (1, .int v1), (2, .int v2)]) (by decide +kernel) (by simp [lv_args, mj_rfc, mj_cti, mj_ctl]) (by simp [mj_rfc, mj_cti, mj_ctl]) ?_
  unfold f_T_handOf at hyp
  refine rt_st (pc1 := 1) (fun _ _ B => go_iload_n 0 d_T_handOf_0 rfl B) ?_
  by_cases c1 : v0 = (104 : Int32)
  · replace hyp := (if_pos c1).symm.trans hyp
    obtain ⟨h2, e3, hyp⟩ := Option.bind_eq_some_iff.mp hyp
    obtain ⟨h4, e5, hyp⟩ := Option.bind_eq_some_iff.mp hyp
    refine rt_st (pc1 := 84) (fun _ _ B => go_lsw 75 d_T_handOf_1 (by decide) (by rw [c1]; decide) (go_newO (ci := 7) (q := q_7) d_T_handOf_75 rfl o_7_ok (fun _ => rfl) w496 w497 w66 e3 (go_dup d_T_handOf_78 (mj_rfc _) (go_iload_n 1 d_T_handOf_79 rfl (go_iload_n 2 d_T_handOf_80 rfl (go_callI (st := [va_rf (some h.2.1)]) [.int v1, .int v2] (t_Sh_init (some h.2.1) v1 v2 h2 _ e5) mm_Sh_init rfl (by decide) d_T_handOf_81 w498 w499 rfl rfl (Nat.le_of_ble_eq_true rfl) rfl B)))))) ?_
    exact rt_eqW va_rf hyp (rt_ref d_T_handOf_84 rfl)
  replace hyp := (if_neg c1).symm.trans hyp
  by_cases c6 : v0 = (112 : Int32)
  · replace hyp := (if_pos c6).symm.trans hyp
    obtain ⟨h7, e8, hyp⟩ := Option.bind_eq_some_iff.mp hyp
    obtain ⟨h9, e10, hyp⟩ := Option.bind_eq_some_iff.mp hyp
    refine rt_st (pc1 := 64) (fun _ _ B => go_lsw 55 d_T_handOf_1 (by decide) (by rw [c6]; decide) (go_newO (ci := 3) (q := q_3) d_T_handOf_55 rfl o_3_ok (fun _ => rfl) w476 w477 w64 e8 (go_dup d_T_handOf_58 (mj_rfc _) (go_iload_n 1 d_T_handOf_59 rfl (go_iload_n 2 d_T_handOf_60 rfl (go_callI (st := [va_rf (some h.2.1)]) [.int v1, .int v2] (t_Po_init (some h.2.1) v1 v2 h7 _ e10) mm_Po_init rfl (by decide) d_T_handOf_61 w478 w479 rfl rfl (Nat.le_of_ble_eq_true rfl) rfl B)))))) ?_
    exact rt_eqW va_rf hyp (rt_ref d_T_handOf_64 rfl)
  replace hyp := (if_neg c6).symm.trans hyp
  by_cases c11 : v0 = (114 : Int32)
  · replace hyp := (if_pos c11).symm.trans hyp
    obtain ⟨h12, e13, hyp⟩ := Option.bind_eq_some_iff.mp hyp
    obtain ⟨h14, e15, hyp⟩ := Option.bind_eq_some_iff.mp hyp
    refine rt_st (pc1 := 74) (fun _ _ B => go_lsw 65 d_T_handOf_1 (by decide) (by rw [c11]; decide) (go_newO (ci := 4) (q := q_4) d_T_handOf_65 rfl o_4_ok (fun _ => rfl) w486 w487 w65 e13 (go_dup d_T_handOf_68 (mj_rfc _) (go_iload_n 1 d_T_handOf_69 rfl (go_iload_n 2 d_T_handOf_70 rfl (go_callI (st := [va_rf (some h.2.1)]) [.int v1, .int v2] (t_Ro_init (some h.2.1) v1 v2 h12 _ e15) mm_Ro_init rfl (by decide) d_T_handOf_71 w488 w489 rfl rfl (Nat.le_of_ble_eq_true rfl) rfl B)))))) ?_
    exact rt_eqW va_rf hyp (rt_ref d_T_handOf_74 rfl)
  replace hyp := (if_neg c11).symm.trans hyp
  by_cases c16 : v0 = (115 : Int32)
  · replace hyp := (if_pos c16).symm.trans hyp
    obtain ⟨h17, e18, hyp⟩ := Option.bind_eq_some_iff.mp hyp
    obtain ⟨h19, e20, hyp⟩ := Option.bind_eq_some_iff.mp hyp
    refine rt_st (pc1 := 54) (fun _ _ B => go_lsw 44 d_T_handOf_1 (by decide) (by rw [c16]; decide) (go_newO (ci := 8) (q := q_8) d_T_handOf_44 rfl o_8_ok (fun _ => rfl) w457 w458 w63 e18 (go_dup d_T_handOf_47 (mj_rfc _) (go_iload_n 1 d_T_handOf_48 rfl (go_iload_n 2 d_T_handOf_49 rfl (go_iconst (v := (3 : Int32)) d_T_handOf_50 (by decide) (go_callI (st := [va_rf (some h.2.1)]) [.int v1, .int v2, .int (3 : Int32)] (t_Sw_init (some h.2.1) v1 v2 (3 : Int32) h17 _ e20) mm_Sw_init rfl (by decide) d_T_handOf_51 w459 w460 rfl rfl (Nat.le_of_ble_eq_true rfl) rfl B))))))) ?_
    exact rt_eqW va_rf hyp (rt_ref d_T_handOf_54 rfl)
  replace hyp := (if_neg c16).symm.trans hyp
  obtain ⟨h21, e22, hyp⟩ := Option.bind_eq_some_iff.mp hyp
  obtain ⟨h23, e24, hyp⟩ := Option.bind_eq_some_iff.mp hyp
  refine rt_st (pc1 := 94) (fun _ _ B => go_lsw 85 d_T_handOf_1 (by decide) (mj_lwd (List.forall_mem_cons.mpr ⟨mj_swn c1 (by decide), List.forall_mem_cons.mpr ⟨mj_swn c6 (by decide), List.forall_mem_cons.mpr ⟨mj_swn c11 (by decide), List.forall_mem_cons.mpr ⟨mj_swn c16 (by decide), List.forall_mem_nil _⟩⟩⟩⟩) rfl) (go_newO (ci := 2) (q := q_2) d_T_handOf_85 rfl o_2_ok (fun _ => rfl) w506 w507 w67 e22 (go_dup d_T_handOf_88 (mj_rfc _) (go_iload_n 1 d_T_handOf_89 rfl (go_iload_n 2 d_T_handOf_90 rfl (go_callI (st := [va_rf (some h.2.1)]) [.int v1, .int v2] (t_Lf_init (some h.2.1) v1 v2 h21 _ e24) mm_Lf_init rfl (by decide) d_T_handOf_91 w508 w509 rfl rfl (Nat.le_of_ble_eq_true rfl) rfl B)))))) ?_
  exact rt_eqW va_rf hyp (rt_ref d_T_handOf_94 rfl)
/-! WideTurn.Tape.readHands(LWideTurn.Basin;)V -/
def b_T_readHands_106 (F : Nat) (k2 : (Option Nat) → (Option Nat) → Int32 → MH → (Option MH)) : (Option Nat) → (Option Nat) → (Int32) → (MH) → (Option MH) := fun v0 v1 v2 h => 
  k2 v0 v1 (v2 + (1 : Int32)) h
def b_T_readHands_68 (F : Nat) (k2 : (Option Nat) → (Option Nat) → Int32 → MH → (Option MH)) : (Option Nat) → (Option Nat) → (Int32) → (Int32) → (MH) → (Option MH) := fun v0 v1 v2 v3 h => 
  Option.bind (onc h v0 9 (f_T_readLetter v0 v3 h)) fun h1 =>
  Option.bind (onc h1 v0 9 (f_T_readNumber F v0 (1 : Int32) (20 : Int32) h1)) fun x3 =>
  Option.bind (onc x3.2 v0 9 (f_T_readLetter v0 (59 : Int32) x3.2)) fun h5 =>
  Option.bind (gfi h5 v0 [9] 3) fun x7 =>
  if x7 = 0 then
    Option.bind (f_T_handOf v3 v2 x3.1 h5) fun x10 =>
    Option.bind (onc x10.2 v1 1 (f_B_addHand v1 x10.1 x10.2)) fun h12 =>
    b_T_readHands_106 F k2 v0 v1 v2 h12
  else
    b_T_readHands_106 F k2 v0 v1 v2 h5
def b_T_readHands_2 (F : Nat) : Nat → (Option Nat) → (Option Nat) → (Int32) → (MH) → (Option MH)
  | 0 => fun _ _ _ _ => none
  | n + 1 => fun v0 v1 v2 h => 
    if (4 : Int32) < v2 then
      some h
    else
      Option.bind (gfi h v0 [9] 3) fun x2 =>
      if x2 = 0 then
        Option.bind (gfi h v0 [9] 2) fun x5 =>
        Option.bind (onc h v0 9 (f_T_letterAt v0 x5 h)) fun x7 =>
        if x7 = (-1 : Int32) then
          some h
        else
          Option.bind (gfi h v0 [9] 2) fun x10 =>
          Option.bind (onc h v0 9 (f_T_letterAt v0 x10 h)) fun x12 =>
          if (f_T_isSort x12) = 0 then
            Option.bind (gfi h v0 [9] 2) fun x15 =>
            Option.bind (onc h v0 9 (f_T_fail v0 (1 : Int32) x15 h)) fun h17 =>
            b_T_readHands_68 F (b_T_readHands_2 F n) v0 v1 v2 x12 h17
          else
            if v2 = (4 : Int32) then
              Option.bind (gfi h v0 [9] 2) fun x20 =>
              Option.bind (onc h v0 9 (f_T_fail v0 (3 : Int32) x20 h)) fun h22 =>
              b_T_readHands_68 F (b_T_readHands_2 F n) v0 v1 v2 x12 h22
            else
              b_T_readHands_68 F (b_T_readHands_2 F n) v0 v1 v2 x12 h
      else
        some h
def f_T_readHands (F : Nat) (v0 : Option Nat) (v1 : Option Nat) (h : MH) : Option MH :=
  b_T_readHands_2 F F v0 v1 (0 : Int32) h
set_option maxHeartbeats 4000000 in
set_option maxRecDepth 200000 in
theorem p_T_readHands_106 (F : Nat) {h0 : MH} (k2 : (Option Nat) → (Option Nat) → Int32 → MH → (Option MH)) (hk2 : ∀ (v0 : Option Nat) (v1 : Option Nat) (v2 : Int32) (h : MH) (r : MH), k2 v0 v1 v2 h = some r → Rt mi_T_readHands 6 h0 2 [(0, va_rf v0), (1, va_rf v1), (2, .int v2)] [] h none r) (v0 : Option Nat) (v1 : Option Nat) (v2 : Int32) (h : MH) (r : MH) : b_T_readHands_106 F k2  v0 v1 v2 h = some r → Rt mi_T_readHands 6 h0 106 [(0, va_rf v0), (1, va_rf v1), (2, .int v2)] [] h none r := by
  intro hyp
  unfold b_T_readHands_106 at hyp
  refine rt_st (pc1 := 2) (fun _ _ B => go_iinc (v := (v2 + (1 : Int32))) (lv1 := [(2, .int (v2 + (1 : Int32))), (0, va_rf v0), (1, va_rf v1)]) 2 d_T_readHands_106 rfl rfl (by decide) (by first | (simp [mj_s1, mj_s2, mj_rfc, mj_cti, mj_ctl]; done) | (simp [mj_s1, mj_s2, mj_rfc, mj_cti, mj_ctl]; decide)) (go_goto 2 d_T_readHands_109 rfl B)) ?_
  refine rt_sub [1, 2, 0] (lv1 := [(0, va_rf v0), (1, va_rf v1), (2, .int (v2 + (1 : Int32)))]) rfl ?_
  exact hk2 _ _ _ _ _ hyp
set_option maxHeartbeats 4000000 in
set_option maxRecDepth 200000 in
theorem p_T_readHands_68 (F : Nat) {h0 : MH} (k2 : (Option Nat) → (Option Nat) → Int32 → MH → (Option MH)) (hk2 : ∀ (v0 : Option Nat) (v1 : Option Nat) (v2 : Int32) (h : MH) (r : MH), k2 v0 v1 v2 h = some r → Rt mi_T_readHands 6 h0 2 [(0, va_rf v0), (1, va_rf v1), (2, .int v2)] [] h none r) (v0 : Option Nat) (v1 : Option Nat) (v2 : Int32) (v3 : Int32) (h : MH) (r : MH) : b_T_readHands_68 F k2  v0 v1 v2 v3 h = some r → Rt mi_T_readHands 6 h0 68 [(0, va_rf v0), (1, va_rf v1), (2, .int v2), (3, .int v3)] [] h none r := by
  intro hyp
  unfold b_T_readHands_68 at hyp
  obtain ⟨h1, e2, hyp⟩ := Option.bind_eq_some_iff.mp hyp
  obtain ⟨x3, e4, hyp⟩ := Option.bind_eq_some_iff.mp hyp
  obtain ⟨h5, e6, hyp⟩ := Option.bind_eq_some_iff.mp hyp
  obtain ⟨x7, e8, hyp⟩ := Option.bind_eq_some_iff.mp hyp
  refine rt_st (pc1 := 92) (fun _ _ B => go_aload_n 0 d_T_readHands_68 rfl (go_iload_n 3 d_T_readHands_69 rfl (go_callV0 (q := q_9) (st := []) [.int v3] (t_T_readLetter v0 v3 h _ (onc_spec e2).2) mm_T_readLetter (by decide) d_T_readHands_70 (onc_spec e2).1 rfl rfl w408 w410 w3 rfl (Nat.le_of_ble_eq_true rfl) rfl (go_aload_n 0 d_T_readHands_73 rfl (go_iconst (v := (1 : Int32)) d_T_readHands_74 (by decide) (go_bipush (v := (20 : Int32)) d_T_readHands_75 (by decide) (go_callV1 (q := q_9) (st := []) [.int (1 : Int32), .int (20 : Int32)] (t_T_readNumber F v0 (1 : Int32) (20 : Int32) h1 _ (onc_spec e4).2) mm_T_readNumber (by decide) d_T_readHands_77 (onc_spec e4).1 rfl rfl w421 w423 w6 rfl (Nat.le_of_ble_eq_true rfl) rfl (go_istore (lv1 := [(4, .int x3.1), (0, va_rf v0), (1, va_rf v1), (2, .int v2), (3, .int v3)]) d_T_readHands_80 (by decide) rfl (go_aload_n 1 d_T_readHands_82 rfl (go_bipush (v := (59 : Int32)) d_T_readHands_83 (by decide) (go_callV0 (q := q_9) (st := []) [.int (59 : Int32)] (t_T_readLetter v0 (59 : Int32) x3.2 _ (onc_spec e6).2) mm_T_readLetter (by decide) d_T_readHands_85 (onc_spec e6).1 rfl rfl w408 w410 w3 rfl (Nat.le_of_ble_eq_true rfl) rfl (go_aload_n 1 d_T_readHands_88 rfl (go_gfi d_T_readHands_89 fd_9_3 w107 e8 B))))))))))))) ?_
  by_cases c9 : x7 = 0
  · replace hyp := (if_pos c9).symm.trans hyp
    obtain ⟨x10, e11, hyp⟩ := Option.bind_eq_some_iff.mp hyp
    obtain ⟨h12, e13, hyp⟩ := Option.bind_eq_some_iff.mp hyp
    refine rt_st (pc1 := 106) (fun _ _ B => go_if_ne_f d_T_readHands_92 rfl c9 (go_aload_n 2 d_T_readHands_95 rfl (go_iload_n 4 d_T_readHands_96 rfl (go_iload_n 3 d_T_readHands_97 rfl (go_iload 0 d_T_readHands_98 rfl (go_callS1 (st := [va_rf v1]) [.int v3, .int v2, .int x3.1] (t_T_handOf v3 v2 x3.1 h5 _ e11) mm_T_handOf (by decide) d_T_readHands_100 w454 w455 rfl (Nat.le_of_ble_eq_true rfl) rfl (go_callV0 (q := q_1) (st := []) [va_rf x10.1] (t_B_addHand v1 x10.1 x10.2 _ (onc_spec e13).2) mm_B_addHand (by decide) d_T_readHands_103 (onc_spec e13).1 rfl rfl w516 w517 w518 rfl (Nat.le_of_ble_eq_true rfl) rfl B))))))) ?_
    refine rt_sub [1, 2, 3] (lv1 := [(0, va_rf v0), (1, va_rf v1), (2, .int v2)]) rfl ?_
    exact p_T_readHands_106 F k2 hk2 _ _ _ _ r hyp
  · replace hyp := (if_neg c9).symm.trans hyp
    refine rt_st (pc1 := 106) (fun _ _ B => go_if_ne_t 106 d_T_readHands_92 rfl c9 B) ?_
    refine rt_sub [1, 2, 3] (lv1 := [(0, va_rf v0), (1, va_rf v1), (2, .int v2)]) rfl ?_
    exact p_T_readHands_106 F k2 hk2 _ _ _ _ r hyp
set_option maxHeartbeats 4000000 in
set_option maxRecDepth 200000 in
theorem p_T_readHands_2 (F : Nat) {h0 : MH} : ∀ (n : Nat) (v0 : Option Nat) (v1 : Option Nat) (v2 : Int32) (h : MH) (r : MH), b_T_readHands_2 F  n v0 v1 v2 h = some r → Rt mi_T_readHands 6 h0 2 [(0, va_rf v0), (1, va_rf v1), (2, .int v2)] [] h none r := by
  intro n
  induction n with
  | zero =>
    intro v0 v1 v2 h r hyp
    cases hyp
  | succ n ih =>
    intro v0 v1 v2 h r hyp
    unfold b_T_readHands_2 at hyp
    refine rt_st (pc1 := 4) (fun _ _ B => go_iload_n 2 d_T_readHands_2 rfl (go_iconst (v := (4 : Int32)) d_T_readHands_3 (by decide) B)) ?_
    by_cases c1 : (4 : Int32) < v2
    · replace hyp := (if_pos c1).symm.trans hyp
      refine rt_st (pc1 := 112) (fun _ _ B => go_icmp_gt_t 112 d_T_readHands_4 rfl c1 B) ?_
      exact rt_eq0 hyp (rt_void d_T_readHands_112 rfl)
    · replace hyp := (if_neg c1).symm.trans hyp
      obtain ⟨x2, e3, hyp⟩ := Option.bind_eq_some_iff.mp hyp
      refine rt_st (pc1 := 11) (fun _ _ B => go_icmp_gt_f d_T_readHands_4 rfl c1 (go_aload_n 0 d_T_readHands_7 rfl (go_gfi d_T_readHands_8 fd_9_3 w107 e3 B))) ?_
      by_cases c4 : x2 = 0
      · replace hyp := (if_pos c4).symm.trans hyp
        obtain ⟨x5, e6, hyp⟩ := Option.bind_eq_some_iff.mp hyp
        obtain ⟨x7, e8, hyp⟩ := Option.bind_eq_some_iff.mp hyp
        refine rt_st (pc1 := 23) (fun _ _ B => go_if_ne_f d_T_readHands_11 rfl c4 (go_aload_n 0 d_T_readHands_14 rfl (go_aload_n 0 d_T_readHands_15 rfl (go_gfi d_T_readHands_16 fd_9_2 w106 e6 (go_callV1 (q := q_9) (st := []) [.int x5] (t_T_letterAt v0 x5 h _ (onc_spec e8).2) mm_T_letterAt (by decide) d_T_readHands_19 (onc_spec e8).1 rfl rfl w412 w414 w4 rfl (Nat.le_of_ble_eq_true rfl) rfl (go_iconst (v := (-1 : Int32)) d_T_readHands_22 (by decide) B)))))) ?_
        by_cases c9 : x7 = (-1 : Int32)
        · replace hyp := (if_pos c9).symm.trans hyp
          refine rt_st (pc1 := 112) (fun _ _ B => go_icmp_eq_t 112 d_T_readHands_23 rfl c9 B) ?_
          exact rt_eq0 hyp (rt_void d_T_readHands_112 rfl)
        · replace hyp := (if_neg c9).symm.trans hyp
          obtain ⟨x10, e11, hyp⟩ := Option.bind_eq_some_iff.mp hyp
          obtain ⟨x12, e13, hyp⟩ := Option.bind_eq_some_iff.mp hyp
          refine rt_st (pc1 := 39) (fun _ _ B => go_icmp_eq_f d_T_readHands_23 rfl c9 (go_aload_n 0 d_T_readHands_26 rfl (go_aload_n 0 d_T_readHands_27 rfl (go_gfi d_T_readHands_28 fd_9_2 w106 e11 (go_callV1 (q := q_9) (st := []) [.int x10] (t_T_letterAt v0 x10 h _ (onc_spec e13).2) mm_T_letterAt (by decide) d_T_readHands_31 (onc_spec e13).1 rfl rfl w412 w414 w4 rfl (Nat.le_of_ble_eq_true rfl) rfl (go_istore_n (lv1 := [(3, .int x12), (0, va_rf v0), (1, va_rf v1), (2, .int v2)]) d_T_readHands_34 (by decide) rfl (go_iload_n 0 d_T_readHands_35 rfl (go_callS1 (st := []) [.int x12] (t_T_isSort x12 h) mm_T_isSort (by decide) d_T_readHands_36 w451 w452 rfl (Nat.le_of_ble_eq_true rfl) rfl B)))))))) ?_
          by_cases c14 : (f_T_isSort x12) = 0
          · replace hyp := (if_pos c14).symm.trans hyp
            obtain ⟨x15, e16, hyp⟩ := Option.bind_eq_some_iff.mp hyp
            obtain ⟨h17, e18, hyp⟩ := Option.bind_eq_some_iff.mp hyp
            refine rt_st (pc1 := 68) (fun _ _ B => go_if_ne_f d_T_readHands_39 rfl c14 (go_aload_n 1 d_T_readHands_42 rfl (go_iconst (v := (1 : Int32)) d_T_readHands_43 (by decide) (go_aload_n 1 d_T_readHands_44 rfl (go_gfi d_T_readHands_45 fd_9_2 w106 e16 (go_callV0 (q := q_9) (st := []) [.int (1 : Int32), .int x15] (t_T_fail v0 (1 : Int32) x15 h _ (onc_spec e18).2) mm_T_fail (by decide) d_T_readHands_48 (onc_spec e18).1 rfl rfl w417 w419 w5 rfl (Nat.le_of_ble_eq_true rfl) rfl (go_goto 68 d_T_readHands_51 rfl B))))))) ?_
            refine rt_sub [1, 2, 3, 0] (lv1 := [(0, va_rf v0), (1, va_rf v1), (2, .int v2), (3, .int x12)]) rfl ?_
            exact p_T_readHands_68 F (b_T_readHands_2 F n) (fun a0 a1 a2 a3 r hyp => ih a0 a1 a2 a3 r hyp) _ _ _ _ _ r hyp
          · replace hyp := (if_neg c14).symm.trans hyp
            refine rt_st (pc1 := 56) (fun _ _ B => go_if_ne_t 54 d_T_readHands_39 rfl c14 (go_iload_n 3 d_T_readHands_54 rfl (go_iconst (v := (4 : Int32)) d_T_readHands_55 (by decide) B))) ?_
            by_cases c19 : v2 = (4 : Int32)
            · replace hyp := (if_pos c19).symm.trans hyp
              obtain ⟨x20, e21, hyp⟩ := Option.bind_eq_some_iff.mp hyp
              obtain ⟨h22, e23, hyp⟩ := Option.bind_eq_some_iff.mp hyp
              refine rt_st (pc1 := 68) (fun _ _ B => go_icmp_ne_f d_T_readHands_56 rfl c19 (go_aload_n 1 d_T_readHands_59 rfl (go_iconst (v := (3 : Int32)) d_T_readHands_60 (by decide) (go_aload_n 1 d_T_readHands_61 rfl (go_gfi d_T_readHands_62 fd_9_2 w106 e21 (go_callV0 (q := q_9) (st := []) [.int (3 : Int32), .int x20] (t_T_fail v0 (3 : Int32) x20 h _ (onc_spec e23).2) mm_T_fail (by decide) d_T_readHands_65 (onc_spec e23).1 rfl rfl w417 w419 w5 rfl (Nat.le_of_ble_eq_true rfl) rfl B)))))) ?_
              refine rt_sub [1, 2, 3, 0] (lv1 := [(0, va_rf v0), (1, va_rf v1), (2, .int v2), (3, .int x12)]) rfl ?_
              exact p_T_readHands_68 F (b_T_readHands_2 F n) (fun a0 a1 a2 a3 r hyp => ih a0 a1 a2 a3 r hyp) _ _ _ _ _ r hyp
            · replace hyp := (if_neg c19).symm.trans hyp
              refine rt_st (pc1 := 68) (fun _ _ B => go_icmp_ne_t 68 d_T_readHands_56 rfl c19 B) ?_
              refine rt_sub [1, 2, 3, 0] (lv1 := [(0, va_rf v0), (1, va_rf v1), (2, .int v2), (3, .int x12)]) rfl ?_
              exact p_T_readHands_68 F (b_T_readHands_2 F n) (fun a0 a1 a2 a3 r hyp => ih a0 a1 a2 a3 r hyp) _ _ _ _ _ r hyp
      · replace hyp := (if_neg c4).symm.trans hyp
        refine rt_st (pc1 := 112) (fun _ _ B => go_if_ne_t 112 d_T_readHands_11 rfl c4 B) ?_
        exact rt_eq0 hyp (rt_void d_T_readHands_112 rfl)
set_option maxHeartbeats 4000000 in
set_option maxRecDepth 200000 in
theorem t_T_readHands (F : Nat) (v0 : Option Nat) (v1 : Option Nat) (h : MH) (r : MH) (hyp : f_T_readHands F v0 v1 h = some r) : Mt mi_T_readHands 6 [va_rf v0, va_rf v1] h none r := by
  refine Mt.rt (lv := [(0, va_rf v0), (1, va_rf v1)]) (by decide +kernel) (by simp [lv_args, mj_rfc, mj_cti, mj_ctl]) (by simp [mj_rfc, mj_cti, mj_ctl]) ?_
  unfold f_T_readHands at hyp
  refine rt_st (pc1 := 2) (fun _ _ B => go_iconst (v := (0 : Int32)) d_T_readHands_0 (by decide) (go_istore_n (lv1 := [(2, .int (0 : Int32)), (0, va_rf v0), (1, va_rf v1)]) d_T_readHands_1 (by decide) (by first | (simp [mj_s1, mj_s2, mj_rfc, mj_cti, mj_ctl]; done) | (simp [mj_s1, mj_s2, mj_rfc, mj_cti, mj_ctl]; decide)) B)) ?_
  refine rt_sub [1, 2, 0] (lv1 := [(0, va_rf v0), (1, va_rf v1), (2, .int (0 : Int32))]) rfl ?_
  exact p_T_readHands_2 F F _ _ _ _ r hyp
/-! WideTurn.Tape.read(LWideTurn.Basin;)Z -/
def f_T_read (F : Nat) (v0 : Option Nat) (v1 : Option Nat) (h : MH) : Option (Int32 × MH) :=
  Option.bind (pfv h v0 [9] 2 (.int (0 : Int32))) fun h1 =>
  Option.bind (pfv h1 v0 [9] 3 (.int (0 : Int32))) fun h3 =>
  Option.bind (onc h3 v1 1 (f_B_clear v1 h3)) fun h5 =>
  Option.bind (onc h5 v0 9 (f_T_readLaw F v0 v1 h5)) fun h7 =>
  Option.bind (onc h7 v0 9 (f_T_readDepths F v0 v1 h7)) fun h9 =>
  Option.bind (onc h9 v0 9 (f_T_readBoat F v0 v1 h9)) fun h11 =>
  Option.bind (onc h11 v0 9 (f_T_readMoored F v0 v1 h11)) fun h13 =>
  Option.bind (onc h13 v0 9 (f_T_readHands F v0 v1 h13)) fun h15 =>
  Option.bind (pfv h15 v0 [9] 1 (.int (0 : Int32))) fun h17 =>
  Option.bind (gfi h17 v0 [9] 3) fun x19 =>
  if x19 = 0 then
    some ((1 : Int32), h17)
  else
    some ((0 : Int32), h17)
set_option maxHeartbeats 4000000 in
set_option maxRecDepth 200000 in
theorem t_T_read (F : Nat) (v0 : Option Nat) (v1 : Option Nat) (h : MH) (r : (Int32 × MH)) (hyp : f_T_read F v0 v1 h = some r) : Mt mi_T_read 7 [va_rf v0, va_rf v1] h (some (.int r.1)) r.2 := by
  refine Mt.rt (lv := [(0, va_rf v0), (1, va_rf v1)]) (by decide +kernel) (by simp [lv_args, mj_rfc, mj_cti, mj_ctl]) (by simp [mj_rfc, mj_cti, mj_ctl]) ?_
  unfold f_T_read at hyp
  obtain ⟨h1, e2, hyp⟩ := Option.bind_eq_some_iff.mp hyp
  obtain ⟨h3, e4, hyp⟩ := Option.bind_eq_some_iff.mp hyp
  obtain ⟨h5, e6, hyp⟩ := Option.bind_eq_some_iff.mp hyp
  obtain ⟨h7, e8, hyp⟩ := Option.bind_eq_some_iff.mp hyp
  obtain ⟨h9, e10, hyp⟩ := Option.bind_eq_some_iff.mp hyp
  obtain ⟨h11, e12, hyp⟩ := Option.bind_eq_some_iff.mp hyp
  obtain ⟨h13, e14, hyp⟩ := Option.bind_eq_some_iff.mp hyp
  obtain ⟨h15, e16, hyp⟩ := Option.bind_eq_some_iff.mp hyp
  obtain ⟨h17, e18, hyp⟩ := Option.bind_eq_some_iff.mp hyp
  obtain ⟨x19, e20, hyp⟩ := Option.bind_eq_some_iff.mp hyp
  refine rt_st (pc1 := 48) (fun _ _ B => go_aload_n 0 d_T_read_0 rfl (go_iconst (v := (0 : Int32)) d_T_read_1 (by decide) (go_pfi d_T_read_2 fd_9_2 w106 (fun q => by cases q) e2 (go_aload_n 0 d_T_read_5 rfl (go_iconst (v := (0 : Int32)) d_T_read_6 (by decide) (go_pfi d_T_read_7 fd_9_3 w107 (fun q => by cases q) e4 (go_aload_n 1 d_T_read_10 rfl (go_callV0 (q := q_1) (st := []) [] (t_B_clear v1 h3 _ (onc_spec e6).2) mm_B_clear (by decide) d_T_read_11 (onc_spec e6).1 rfl rfl w400 w401 w402 rfl (Nat.le_of_ble_eq_true rfl) rfl (go_aload_n 0 d_T_read_14 rfl (go_aload_n 1 d_T_read_15 rfl (go_callV0 (q := q_9) (st := []) [va_rf v1] (t_T_readLaw F v0 v1 h5 _ (onc_spec e8).2) mm_T_readLaw (by decide) d_T_read_16 (onc_spec e8).1 rfl rfl w404 w406 w2 rfl (Nat.le_of_ble_eq_true rfl) rfl (go_aload_n 0 d_T_read_19 rfl (go_aload_n 1 d_T_read_20 rfl (go_callV0 (q := q_9) (st := []) [va_rf v1] (t_T_readDepths F v0 v1 h7 _ (onc_spec e10).2) mm_T_readDepths (by decide) d_T_read_21 (onc_spec e10).1 rfl rfl w428 w430 w7 rfl (Nat.le_of_ble_eq_true rfl) rfl (go_aload_n 0 d_T_read_24 rfl (go_aload_n 1 d_T_read_25 rfl (go_callV0 (q := q_9) (st := []) [va_rf v1] (t_T_readBoat F v0 v1 h9 _ (onc_spec e12).2) mm_T_readBoat (by decide) d_T_read_26 (onc_spec e12).1 rfl rfl w436 w438 w9 rfl (Nat.le_of_ble_eq_true rfl) rfl (go_aload_n 0 d_T_read_29 rfl (go_aload_n 1 d_T_read_30 rfl (go_callV0 (q := q_9) (st := []) [va_rf v1] (t_T_readMoored F v0 v1 h11 _ (onc_spec e14).2) mm_T_readMoored (by decide) d_T_read_31 (onc_spec e14).1 rfl rfl w440 w442 w10 rfl (Nat.le_of_ble_eq_true rfl) rfl (go_aload_n 0 d_T_read_34 rfl (go_aload_n 1 d_T_read_35 rfl (go_callV0 (q := q_9) (st := []) [va_rf v1] (t_T_readHands F v0 v1 h13 _ (onc_spec e16).2) mm_T_readHands (by decide) d_T_read_36 (onc_spec e16).1 rfl rfl w447 w449 w11 rfl (Nat.le_of_ble_eq_true rfl) rfl (go_aload_n 0 d_T_read_39 rfl (go_iconst (v := (0 : Int32)) d_T_read_40 (by decide) (go_pfi d_T_read_41 fd_9_1 w105 (fun q => by cases q) e18 (go_aload_n 0 d_T_read_44 rfl (go_gfi d_T_read_45 fd_9_3 w107 e20 B)))))))))))))))))))))))))))) ?_
  by_cases c21 : x19 = 0
  · replace hyp := (if_pos c21).symm.trans hyp
    refine rt_st (pc1 := 56) (fun _ _ B => go_if_ne_f d_T_read_48 rfl c21 (go_iconst (v := (1 : Int32)) d_T_read_51 (by decide) (go_goto 56 d_T_read_52 rfl B))) ?_
    exact rt_eqW Value.int hyp (rt_bool d_T_read_56 rfl (by decide))
  · replace hyp := (if_neg c21).symm.trans hyp
    refine rt_st (pc1 := 56) (fun _ _ B => go_if_ne_t 55 d_T_read_48 rfl c21 (go_iconst (v := (0 : Int32)) d_T_read_55 (by decide) B)) ?_
    exact rt_eqW Value.int hyp (rt_bool d_T_read_56 rfl (by decide))
/-! WideTurn.<init>()V -/
def f_C_init (F : Nat) (v0 : Option Nat) (h : MH) : Option MH :=
  Option.bind v0 fun t0 =>
  Option.bind (newO h 5) fun h2 =>
  Option.bind (f_Rw_init F (some h.2.1) h2) fun h4 =>
  Option.bind (pfv h4 v0 [10] 0 (va_rf (some h.2.1))) fun h6 =>
  Option.bind (newO h6 9) fun h8 =>
  Option.bind (f_T_init (some h6.2.1) h8) fun h10 =>
  Option.bind (pfv h10 v0 [10] 1 (va_rf (some h6.2.1))) fun h12 =>
  Option.bind (newO h12 0) fun h14 =>
  Option.bind (f_A_init (some h12.2.1) h14) fun h16 =>
  Option.bind (pfv h16 v0 [10] 2 (va_rf (some h12.2.1))) fun h18 =>
  Option.bind (newO h18 6) fun h20 =>
  Option.bind (f_S_init (some h18.2.1) h20) fun h22 =>
  Option.bind (pfv h22 v0 [10] 3 (va_rf (some h18.2.1))) fun h24 =>
  Option.bind (newO h24 1) fun h26 =>
  Option.bind (f_B_init (some h24.2.1) h26) fun h28 =>
  Option.bind (pfv h28 v0 [10] 4 (va_rf (some h24.2.1))) fun h30 =>
  Option.bind (newO h30 1) fun h32 =>
  Option.bind (f_B_init (some h30.2.1) h32) fun h34 =>
  Option.bind (pfv h34 v0 [10] 5 (va_rf (some h30.2.1))) fun h36 =>
  Option.bind (newQ h36 3 2) fun h38 =>
  Option.bind (pfv h38 v0 [10] 6 (va_rf (some h36.2.1))) fun h40 =>
  Option.bind (newA h40 0 17) fun h42 =>
  Option.bind (pfv h42 v0 [10] 7 (va_rf (some h40.2.1))) fun h44 =>
  some h44
set_option maxHeartbeats 4000000 in
set_option maxRecDepth 200000 in
theorem t_C_init (F : Nat) (v0 : Option Nat) (h : MH) (r : MH) (hyp : f_C_init F v0 h = some r) : Mt mi_C_init 3 [va_rf v0] h none r := by
  refine Mt.rt (lv := [(0, va_rf v0)]) (by decide +kernel) (by simp [lv_args, mj_rfc, mj_cti, mj_ctl]) (by simp [mj_rfc, mj_cti, mj_ctl]) ?_
  unfold f_C_init at hyp
  obtain ⟨t0, hthis, hyp⟩ := Option.bind_eq_some_iff.mp hyp
  obtain ⟨h2, e3, hyp⟩ := Option.bind_eq_some_iff.mp hyp
  obtain ⟨h4, e5, hyp⟩ := Option.bind_eq_some_iff.mp hyp
  obtain ⟨h6, e7, hyp⟩ := Option.bind_eq_some_iff.mp hyp
  obtain ⟨h8, e9, hyp⟩ := Option.bind_eq_some_iff.mp hyp
  obtain ⟨h10, e11, hyp⟩ := Option.bind_eq_some_iff.mp hyp
  obtain ⟨h12, e13, hyp⟩ := Option.bind_eq_some_iff.mp hyp
  obtain ⟨h14, e15, hyp⟩ := Option.bind_eq_some_iff.mp hyp
  obtain ⟨h16, e17, hyp⟩ := Option.bind_eq_some_iff.mp hyp
  obtain ⟨h18, e19, hyp⟩ := Option.bind_eq_some_iff.mp hyp
  obtain ⟨h20, e21, hyp⟩ := Option.bind_eq_some_iff.mp hyp
  obtain ⟨h22, e23, hyp⟩ := Option.bind_eq_some_iff.mp hyp
  obtain ⟨h24, e25, hyp⟩ := Option.bind_eq_some_iff.mp hyp
  obtain ⟨h26, e27, hyp⟩ := Option.bind_eq_some_iff.mp hyp
  obtain ⟨h28, e29, hyp⟩ := Option.bind_eq_some_iff.mp hyp
  obtain ⟨h30, e31, hyp⟩ := Option.bind_eq_some_iff.mp hyp
  obtain ⟨h32, e33, hyp⟩ := Option.bind_eq_some_iff.mp hyp
  obtain ⟨h34, e35, hyp⟩ := Option.bind_eq_some_iff.mp hyp
  obtain ⟨h36, e37, hyp⟩ := Option.bind_eq_some_iff.mp hyp
  obtain ⟨h38, e39, hyp⟩ := Option.bind_eq_some_iff.mp hyp
  obtain ⟨h40, e41, hyp⟩ := Option.bind_eq_some_iff.mp hyp
  obtain ⟨h42, e43, hyp⟩ := Option.bind_eq_some_iff.mp hyp
  obtain ⟨h44, e45, hyp⟩ := Option.bind_eq_some_iff.mp hyp
  refine rt_st (pc1 := 86) (fun _ _ B => go_aload_n 0 d_C_init_0 rfl (go_objI (st := []) (mj_some hthis) (by decide) d_C_init_1 w75 w_objI w_objC (Nat.le_of_ble_eq_true rfl) (go_aload_n 0 d_C_init_4 rfl (go_newO (ci := 5) (q := q_5) d_C_init_5 rfl o_5_ok (fun _ => rfl) w78 w79 w54 e3 (go_dup d_C_init_8 (mj_rfc _) (go_callI (st := [va_rf (some h.2.1), va_rf v0]) [] (t_Rw_init F (some h.2.1) h2 _ e5) mm_Rw_init rfl (by decide) d_C_init_9 w80 w81 rfl rfl (Nat.le_of_ble_eq_true rfl) rfl (go_pfr (ty := (.object "WideTurn$Rows")) d_C_init_12 fd_10_0 w275 (fun _ => ⟨rfl, rfl⟩) (by decide +kernel) rfl e7 (go_aload_n 0 d_C_init_15 rfl (go_newO (ci := 9) (q := q_9) d_C_init_16 rfl o_9_ok (fun _ => rfl) w98 w99 w56 e9 (go_dup d_C_init_19 (mj_rfc _) (go_callIN (st := [va_rf (some h6.2.1), va_rf v0]) [] (t_T_init (some h6.2.1) h8 _ e11) mm_T_init rfl (by decide) d_C_init_20 w100 w101 rfl rfl (Nat.le_of_ble_eq_true rfl) rfl (go_pfr (ty := (.object "WideTurn$Tape")) d_C_init_23 fd_10_1 w276 (fun _ => ⟨rfl, rfl⟩) (by decide +kernel) rfl e13 (go_aload_n 0 d_C_init_26 rfl (go_newO (ci := 0) (q := q_0) d_C_init_27 rfl o_0_ok (fun _ => rfl) w123 w124 w57 e15 (go_dup d_C_init_30 (mj_rfc _) (go_callIN (st := [va_rf (some h12.2.1), va_rf v0]) [] (t_A_init (some h12.2.1) h14 _ e17) mm_A_init rfl (by decide) d_C_init_31 w125 w126 rfl rfl (Nat.le_of_ble_eq_true rfl) rfl (go_pfr (ty := (.object "WideTurn$Acts")) d_C_init_34 fd_10_2 w277 (fun _ => ⟨rfl, rfl⟩) (by decide +kernel) rfl e19 (go_aload_n 0 d_C_init_37 rfl (go_newO (ci := 6) (q := q_6) d_C_init_38 rfl o_6_ok (fun _ => rfl) w154 w155 w58 e21 (go_dup d_C_init_41 (mj_rfc _) (go_callIN (st := [va_rf (some h18.2.1), va_rf v0]) [] (t_S_init (some h18.2.1) h20 _ e23) mm_S_init rfl (by decide) d_C_init_42 w156 w157 rfl rfl (Nat.le_of_ble_eq_true rfl) rfl (go_pfr (ty := (.object "WideTurn$Search")) d_C_init_45 fd_10_3 w278 (fun _ => ⟨rfl, rfl⟩) (by decide +kernel) rfl e25 (go_aload_n 0 d_C_init_48 rfl (go_newO (ci := 1) (q := q_1) d_C_init_49 rfl o_1_ok (fun _ => rfl) w205 w206 w59 e27 (go_dup d_C_init_52 (mj_rfc _) (go_callIN (st := [va_rf (some h24.2.1), va_rf v0]) [] (t_B_init (some h24.2.1) h26 _ e29) mm_B_init rfl (by decide) d_C_init_53 w207 w208 rfl rfl (Nat.le_of_ble_eq_true rfl) rfl (go_pfr (ty := (.object "WideTurn$Basin")) d_C_init_56 fd_10_4 w279 (fun _ => ⟨rfl, rfl⟩) (by decide +kernel) rfl e31 (go_aload_n 0 d_C_init_59 rfl (go_newO (ci := 1) (q := q_1) d_C_init_60 rfl o_1_ok (fun _ => rfl) w205 w206 w59 e33 (go_dup d_C_init_63 (mj_rfc _) (go_callIN (st := [va_rf (some h30.2.1), va_rf v0]) [] (t_B_init (some h30.2.1) h32 _ e35) mm_B_init rfl (by decide) d_C_init_64 w207 w208 rfl rfl (Nat.le_of_ble_eq_true rfl) rfl (go_pfr (ty := (.object "WideTurn$Basin")) d_C_init_67 fd_10_5 w280 (fun _ => ⟨rfl, rfl⟩) (by decide +kernel) rfl e37 (go_aload_n 0 d_C_init_70 rfl (go_iconst (v := (2 : Int32)) d_C_init_71 (by decide) (go_newQ (C := "WideTurn$Basin") (by decide) rfl d_C_init_72 w205 w274 (by decide) (by decide) (by decide) e39 (go_pfr (ty := (.array (.object "WideTurn$Basin"))) d_C_init_75 fd_10_6 w281 (fun _ => ⟨rfl, rfl⟩) (by decide +kernel) rfl e41 (go_aload_n 0 d_C_init_78 rfl (go_bipush (v := (17 : Int32)) d_C_init_79 (by decide) (go_newA (by decide) rfl d_C_init_81 w_arr0 (by decide) (by decide) (by decide) e43 (go_pfr (ty := (.array .int)) d_C_init_83 fd_10_7 w282 (fun _ => ⟨rfl, rfl⟩) (by decide +kernel) rfl e45 B)))))))))))))))))))))))))))))))))))))))) ?_
  exact rt_eq0 hyp (rt_void d_C_init_86 rfl)
/-! WideTurn.found(I)I -/
def f_C_found (v0 : Option Nat) (v1 : Int32) (h : MH) : Option (Int32 × MH) :=
  Option.bind (pfv h v0 [10] 9 (.int v1)) fun h1 =>
  some (((-1000010 : Int32) - v1), h1)
set_option maxHeartbeats 4000000 in
set_option maxRecDepth 200000 in
theorem t_C_found (v0 : Option Nat) (v1 : Int32) (h : MH) (r : (Int32 × MH)) (hyp : f_C_found v0 v1 h = some r) : Mt mi_C_found 1 [va_rf v0, .int v1] h (some (.int r.1)) r.2 := by
  refine Mt.rt (lv := [(0, va_rf v0), (1, .int v1)]) (by decide +kernel) (by simp [lv_args, mj_rfc, mj_cti, mj_ctl]) (by simp [mj_rfc, mj_cti, mj_ctl]) ?_
  unfold f_C_found at hyp
  obtain ⟨h1, e2, hyp⟩ := Option.bind_eq_some_iff.mp hyp
  refine rt_st (pc1 := 10) (fun _ _ B => go_aload_n 0 d_C_found_0 rfl (go_iload_n 1 d_C_found_1 rfl (go_pfi d_C_found_2 fd_10_9 w284 (fun q => by cases q) e2 (go_ldcw (v := (-1000010 : Int32)) d_C_found_5 w321 (go_iload_n 1 d_C_found_8 rfl (go_isub d_C_found_9 B)))))) ?_
  exact rt_eqW Value.int hyp (rt_int d_C_found_10 rfl)
/-! WideTurn.sound(I)I -/
def f_C_sound (v0 : Option Nat) (v1 : Int32) (h : MH) : Option (Int32 × MH) :=
  Option.bind (pfv h v0 [10] 9 (.int (0 : Int32))) fun h1 =>
  some (v1, h1)
set_option maxHeartbeats 4000000 in
set_option maxRecDepth 200000 in
theorem t_C_sound (v0 : Option Nat) (v1 : Int32) (h : MH) (r : (Int32 × MH)) (hyp : f_C_sound v0 v1 h = some r) : Mt mi_C_sound 1 [va_rf v0, .int v1] h (some (.int r.1)) r.2 := by
  refine Mt.rt (lv := [(0, va_rf v0), (1, .int v1)]) (by decide +kernel) (by simp [lv_args, mj_rfc, mj_cti, mj_ctl]) (by simp [mj_rfc, mj_cti, mj_ctl]) ?_
  unfold f_C_sound at hyp
  obtain ⟨h1, e2, hyp⟩ := Option.bind_eq_some_iff.mp hyp
  refine rt_st (pc1 := 6) (fun _ _ B => go_aload_n 0 d_C_sound_0 rfl (go_iconst (v := (0 : Int32)) d_C_sound_1 (by decide) (go_pfi d_C_sound_2 fd_10_9 w284 (fun q => by cases q) e2 (go_iload_n 1 d_C_sound_5 rfl B)))) ?_
  exact rt_eqW Value.int hyp (rt_int d_C_sound_6 rfl)
/-! WideTurn.row(III)I -/
def f_C_row (F : Nat) (v0 : Option Nat) (v1 : Int32) (v2 : Int32) (v3 : Int32) (h : MH) : Option (Int32 × MH) :=
  if (f_C_isRow v1) = 0 then
    some ((-1000001 : Int32), h)
  else
    if (f_C_within v2 (3 : Int32)) = 0 then
      some ((-1000001 : Int32), h)
    else
      if v3 ≤ (40 : Int32) then
        if 0 ≤ v3 then
          Option.bind (gfr h v0 [10] 0) fun x5 =>
          Option.bind (onc h x5 5 (f_Rw_make F x5 v1 v2 v3 h)) fun h7 =>
          Option.bind (onc h7 v0 10 (f_C_sound v0 v3 h7)) fun x9 =>
          some (x9.1, x9.2)
        else
          Option.bind (onc h v0 10 (f_C_found v0 (4 : Int32) h)) fun x11 =>
          some (x11.1, x11.2)
      else
        some ((-1000001 : Int32), h)
set_option maxHeartbeats 4000000 in
set_option maxRecDepth 200000 in
theorem t_C_row (F : Nat) (v0 : Option Nat) (v1 : Int32) (v2 : Int32) (v3 : Int32) (h : MH) (r : (Int32 × MH)) (hyp : f_C_row F v0 v1 v2 v3 h = some r) : Mt mi_C_row 3 [va_rf v0, .int v1, .int v2, .int v3] h (some (.int r.1)) r.2 := by
  refine Mt.rt (lv := [(0, va_rf v0), (1, .int v1), (2, .int v2), (3, .int v3)]) (by decide +kernel) (by simp [lv_args, mj_rfc, mj_cti, mj_ctl]) (by simp [mj_rfc, mj_cti, mj_ctl]) ?_
  unfold f_C_row at hyp
  refine rt_st (pc1 := 4) (fun _ _ B => go_iload_n 1 d_C_row_0 rfl (go_callS1 (st := []) [.int v1] (t_C_isRow v1 h) mm_C_isRow (by decide) d_C_row_1 w310 w311 rfl (Nat.le_of_ble_eq_true rfl) rfl B)) ?_
  by_cases c1 : (f_C_isRow v1) = 0
  · replace hyp := (if_pos c1).symm.trans hyp
    refine rt_st (pc1 := 23) (fun _ _ B => go_if_eq_t 21 d_C_row_4 rfl c1 (go_ldc (v := (-1000001 : Int32)) d_C_row_21 w316 B)) ?_
    exact rt_eqW Value.int hyp (rt_int d_C_row_23 rfl)
  · replace hyp := (if_neg c1).symm.trans hyp
    refine rt_st (pc1 := 12) (fun _ _ B => go_if_eq_f d_C_row_4 rfl c1 (go_iload_n 2 d_C_row_7 rfl (go_iconst (v := (3 : Int32)) d_C_row_8 (by decide) (go_callS1 (st := []) [.int v2, .int (3 : Int32)] (t_C_within v2 (3 : Int32) h) mm_C_within (by decide) d_C_row_9 w313 w314 rfl (Nat.le_of_ble_eq_true rfl) rfl B)))) ?_
    by_cases c2 : (f_C_within v2 (3 : Int32)) = 0
    · replace hyp := (if_pos c2).symm.trans hyp
      refine rt_st (pc1 := 23) (fun _ _ B => go_if_eq_t 21 d_C_row_12 rfl c2 (go_ldc (v := (-1000001 : Int32)) d_C_row_21 w316 B)) ?_
      exact rt_eqW Value.int hyp (rt_int d_C_row_23 rfl)
    · replace hyp := (if_neg c2).symm.trans hyp
      refine rt_st (pc1 := 18) (fun _ _ B => go_if_eq_f d_C_row_12 rfl c2 (go_iload_n 3 d_C_row_15 rfl (go_bipush (v := (40 : Int32)) d_C_row_16 (by decide) B))) ?_
      by_cases c3 : v3 ≤ (40 : Int32)
      · replace hyp := (if_pos c3).symm.trans hyp
        refine rt_st (pc1 := 25) (fun _ _ B => go_icmp_le_t 24 d_C_row_18 rfl c3 (go_iload_n 3 d_C_row_24 rfl B)) ?_
        by_cases c4 : 0 ≤ v3
        · replace hyp := (if_pos c4).symm.trans hyp
          obtain ⟨x5, e6, hyp⟩ := Option.bind_eq_some_iff.mp hyp
          obtain ⟨h7, e8, hyp⟩ := Option.bind_eq_some_iff.mp hyp
          obtain ⟨x9, e10, hyp⟩ := Option.bind_eq_some_iff.mp hyp
          refine rt_st (pc1 := 49) (fun _ _ B => go_if_ge_t 34 d_C_row_25 rfl c4 (go_aload_n 0 d_C_row_34 rfl (go_gfr d_C_row_35 fd_10_0 w275 e6 (go_iload_n 1 d_C_row_38 rfl (go_iload_n 2 d_C_row_39 rfl (go_iload_n 3 d_C_row_40 rfl (go_callV0 (q := q_5) (st := []) [.int v1, .int v2, .int v3] (t_Rw_make F x5 v1 v2 v3 h _ (onc_spec e8).2) mm_Rw_make (by decide) d_C_row_41 (onc_spec e8).1 rfl rfl w322 w323 w324 rfl (Nat.le_of_ble_eq_true rfl) rfl (go_aload_n 0 d_C_row_44 rfl (go_iload_n 3 d_C_row_45 rfl (go_callV1 (q := q_10) (st := []) [.int v3] (t_C_sound v0 v3 h7 _ (onc_spec e10).2) mm_C_sound (by decide) d_C_row_46 (onc_spec e10).1 rfl rfl w329 w331 w1 rfl (Nat.le_of_ble_eq_true rfl) rfl B)))))))))) ?_
          exact rt_eqW Value.int hyp (rt_int d_C_row_49 rfl)
        · replace hyp := (if_neg c4).symm.trans hyp
          obtain ⟨x11, e12, hyp⟩ := Option.bind_eq_some_iff.mp hyp
          refine rt_st (pc1 := 33) (fun _ _ B => go_if_ge_f d_C_row_25 rfl c4 (go_aload_n 0 d_C_row_28 rfl (go_iconst (v := (4 : Int32)) d_C_row_29 (by decide) (go_callV1 (q := q_10) (st := []) [.int (4 : Int32)] (t_C_found v0 (4 : Int32) h _ (onc_spec e12).2) mm_C_found (by decide) d_C_row_30 (onc_spec e12).1 rfl rfl w317 w319 w0 rfl (Nat.le_of_ble_eq_true rfl) rfl B)))) ?_
          exact rt_eqW Value.int hyp (rt_int d_C_row_33 rfl)
      · replace hyp := (if_neg c3).symm.trans hyp
        refine rt_st (pc1 := 23) (fun _ _ B => go_icmp_le_f d_C_row_18 rfl c3 (go_ldc (v := (-1000001 : Int32)) d_C_row_21 w316 B)) ?_
        exact rt_eqW Value.int hyp (rt_int d_C_row_23 rfl)
/-! WideTurn.set(III)I -/
def f_C_set (v0 : Option Nat) (v1 : Int32) (v2 : Int32) (v3 : Int32) (h : MH) : Option (Int32 × MH) :=
  if (f_C_isRow v1) = 0 then
    some ((-1000001 : Int32), h)
  else
    Option.bind (gfr h v0 [10] 0) fun x2 =>
    Option.bind (onc h x2 5 (f_Rw_isMissing x2 v1 h)) fun x4 =>
    if x4 = 0 then
      Option.bind (gfr h v0 [10] 0) fun x7 =>
      Option.bind (onc h x7 5 (f_Rw_holds x7 v1 v2 (1 : Int32) h)) fun x9 =>
      if x9 = 0 then
        Option.bind (onc h v0 10 (f_C_found v0 (2 : Int32) h)) fun x12 =>
        some (x12.1, x12.2)
      else
        Option.bind (gfr h v0 [10] 0) fun x14 =>
        Option.bind (onc h x14 5 (f_Rw_store x14 v1 v2 v3 h)) fun x16 =>
        Option.bind (onc x16.2 v0 10 (f_C_sound v0 x16.1 x16.2)) fun x18 =>
        some (x18.1, x18.2)
    else
      Option.bind (onc h v0 10 (f_C_found v0 (1 : Int32) h)) fun x20 =>
      some (x20.1, x20.2)
set_option maxHeartbeats 4000000 in
set_option maxRecDepth 200000 in
theorem t_C_set (v0 : Option Nat) (v1 : Int32) (v2 : Int32) (v3 : Int32) (h : MH) (r : (Int32 × MH)) (hyp : f_C_set v0 v1 v2 v3 h = some r) : Mt mi_C_set 4 [va_rf v0, .int v1, .int v2, .int v3] h (some (.int r.1)) r.2 := by
  refine Mt.rt (lv := [(0, va_rf v0), (1, .int v1), (2, .int v2), (3, .int v3)]) (by decide +kernel) (by simp [lv_args, mj_rfc, mj_cti, mj_ctl]) (by simp [mj_rfc, mj_cti, mj_ctl]) ?_
  unfold f_C_set at hyp
  refine rt_st (pc1 := 4) (fun _ _ B => go_iload_n 1 d_C_set_0 rfl (go_callS1 (st := []) [.int v1] (t_C_isRow v1 h) mm_C_isRow (by decide) d_C_set_1 w310 w311 rfl (Nat.le_of_ble_eq_true rfl) rfl B)) ?_
  by_cases c1 : (f_C_isRow v1) = 0
  · replace hyp := (if_pos c1).symm.trans hyp
    refine rt_st (pc1 := 9) (fun _ _ B => go_if_ne_f d_C_set_4 rfl c1 (go_ldc (v := (-1000001 : Int32)) d_C_set_7 w316 B)) ?_
    exact rt_eqW Value.int hyp (rt_int d_C_set_9 rfl)
  · replace hyp := (if_neg c1).symm.trans hyp
    obtain ⟨x2, e3, hyp⟩ := Option.bind_eq_some_iff.mp hyp
    obtain ⟨x4, e5, hyp⟩ := Option.bind_eq_some_iff.mp hyp
    refine rt_st (pc1 := 18) (fun _ _ B => go_if_ne_t 10 d_C_set_4 rfl c1 (go_aload_n 0 d_C_set_10 rfl (go_gfr d_C_set_11 fd_10_0 w275 e3 (go_iload_n 1 d_C_set_14 rfl (go_callV1 (q := q_5) (st := []) [.int v1] (t_Rw_isMissing x2 v1 h _ (onc_spec e5).2) mm_Rw_isMissing (by decide) d_C_set_15 (onc_spec e5).1 rfl rfl w337 w338 w339 rfl (Nat.le_of_ble_eq_true rfl) rfl B))))) ?_
    by_cases c6 : x4 = 0
    · replace hyp := (if_pos c6).symm.trans hyp
      obtain ⟨x7, e8, hyp⟩ := Option.bind_eq_some_iff.mp hyp
      obtain ⟨x9, e10, hyp⟩ := Option.bind_eq_some_iff.mp hyp
      refine rt_st (pc1 := 37) (fun _ _ B => go_if_eq_t 27 d_C_set_18 rfl c6 (go_aload_n 0 d_C_set_27 rfl (go_gfr d_C_set_28 fd_10_0 w275 e8 (go_iload_n 1 d_C_set_31 rfl (go_iload_n 2 d_C_set_32 rfl (go_iconst (v := (1 : Int32)) d_C_set_33 (by decide) (go_callV1 (q := q_5) (st := []) [.int v1, .int v2, .int (1 : Int32)] (t_Rw_holds x7 v1 v2 (1 : Int32) h _ (onc_spec e10).2) mm_Rw_holds (by decide) d_C_set_34 (onc_spec e10).1 rfl rfl w345 w346 w347 rfl (Nat.le_of_ble_eq_true rfl) rfl B))))))) ?_
      by_cases c11 : x9 = 0
      · replace hyp := (if_pos c11).symm.trans hyp
        obtain ⟨x12, e13, hyp⟩ := Option.bind_eq_some_iff.mp hyp
        refine rt_st (pc1 := 45) (fun _ _ B => go_if_ne_f d_C_set_37 rfl c11 (go_aload_n 0 d_C_set_40 rfl (go_iconst (v := (2 : Int32)) d_C_set_41 (by decide) (go_callV1 (q := q_10) (st := []) [.int (2 : Int32)] (t_C_found v0 (2 : Int32) h _ (onc_spec e13).2) mm_C_found (by decide) d_C_set_42 (onc_spec e13).1 rfl rfl w317 w319 w0 rfl (Nat.le_of_ble_eq_true rfl) rfl B)))) ?_
        exact rt_eqW Value.int hyp (rt_int d_C_set_45 rfl)
      · replace hyp := (if_neg c11).symm.trans hyp
        obtain ⟨x14, e15, hyp⟩ := Option.bind_eq_some_iff.mp hyp
        obtain ⟨x16, e17, hyp⟩ := Option.bind_eq_some_iff.mp hyp
        obtain ⟨x18, e19, hyp⟩ := Option.bind_eq_some_iff.mp hyp
        refine rt_st (pc1 := 60) (fun _ _ B => go_if_ne_t 46 d_C_set_37 rfl c11 (go_aload_n 0 d_C_set_46 rfl (go_aload_n 0 d_C_set_47 rfl (go_gfr d_C_set_48 fd_10_0 w275 e15 (go_iload_n 1 d_C_set_51 rfl (go_iload_n 2 d_C_set_52 rfl (go_iload_n 3 d_C_set_53 rfl (go_callV1 (q := q_5) (st := [va_rf v0]) [.int v1, .int v2, .int v3] (t_Rw_store x14 v1 v2 v3 h _ (onc_spec e17).2) mm_Rw_store (by decide) d_C_set_54 (onc_spec e17).1 rfl rfl w349 w350 w351 rfl (Nat.le_of_ble_eq_true rfl) rfl (go_callV1 (q := q_10) (st := []) [.int x16.1] (t_C_sound v0 x16.1 x16.2 _ (onc_spec e19).2) mm_C_sound (by decide) d_C_set_57 (onc_spec e19).1 rfl rfl w329 w331 w1 rfl (Nat.le_of_ble_eq_true rfl) rfl B))))))))) ?_
        exact rt_eqW Value.int hyp (rt_int d_C_set_60 rfl)
    · replace hyp := (if_neg c6).symm.trans hyp
      obtain ⟨x20, e21, hyp⟩ := Option.bind_eq_some_iff.mp hyp
      refine rt_st (pc1 := 26) (fun _ _ B => go_if_eq_f d_C_set_18 rfl c6 (go_aload_n 0 d_C_set_21 rfl (go_iconst (v := (1 : Int32)) d_C_set_22 (by decide) (go_callV1 (q := q_10) (st := []) [.int (1 : Int32)] (t_C_found v0 (1 : Int32) h _ (onc_spec e21).2) mm_C_found (by decide) d_C_set_23 (onc_spec e21).1 rfl rfl w317 w319 w0 rfl (Nat.le_of_ble_eq_true rfl) rfl B)))) ?_
      exact rt_eqW Value.int hyp (rt_int d_C_set_26 rfl)
/-! WideTurn.copy(IIIII)I -/
def b_C_copy_92 : (Option Nat) → (MH) → (Option (Int32 × MH)) := fun v0 h => 
  Option.bind (onc h v0 10 (f_C_found v0 (2 : Int32) h)) fun x1 =>
  some (x1.1, x1.2)
def b_C_copy_39 : (Option Nat) → (MH) → (Option (Int32 × MH)) := fun v0 h => 
  Option.bind (onc h v0 10 (f_C_found v0 (1 : Int32) h)) fun x1 =>
  some (x1.1, x1.2)
def f_C_copy (v0 : Option Nat) (v1 : Int32) (v2 : Int32) (v3 : Int32) (v4 : Int32) (v5 : Int32) (h : MH) : Option (Int32 × MH) :=
  if (f_C_isRow v1) = 0 then
    some ((-1000001 : Int32), h)
  else
    if (f_C_isRow v3) = 0 then
      some ((-1000001 : Int32), h)
    else
      Option.bind (gfr h v0 [10] 0) fun x3 =>
      Option.bind (onc h x3 5 (f_Rw_isMissing x3 v1 h)) fun x5 =>
      if x5 = 0 then
        Option.bind (gfr h v0 [10] 0) fun x8 =>
        Option.bind (onc h x8 5 (f_Rw_isMissing x8 v3 h)) fun x10 =>
        if x10 = 0 then
          Option.bind (gfr h v0 [10] 0) fun x13 =>
          Option.bind (onc h x13 5 (f_Rw_areAlike x13 v1 v3 h)) fun x15 =>
          if x15 = 0 then
            Option.bind (onc h v0 10 (f_C_found v0 (5 : Int32) h)) fun x18 =>
            some (x18.1, x18.2)
          else
            Option.bind (gfr h v0 [10] 0) fun x20 =>
            Option.bind (onc h x20 5 (f_Rw_holds x20 v1 v2 v5 h)) fun x22 =>
            if x22 = 0 then
              b_C_copy_92 v0 h
            else
              Option.bind (gfr h v0 [10] 0) fun x25 =>
              Option.bind (onc h x25 5 (f_Rw_holds x25 v3 v4 v5 h)) fun x27 =>
              if x27 = 0 then
                b_C_copy_92 v0 h
              else
                Option.bind (gfr h v0 [10] 0) fun x30 =>
                Option.bind (onc h x30 5 (f_Rw_carry x30 v1 v2 v3 v4 v5 h)) fun h32 =>
                Option.bind (onc h32 v0 10 (f_C_sound v0 v5 h32)) fun x34 =>
                some (x34.1, x34.2)
        else
          b_C_copy_39 v0 h
      else
        b_C_copy_39 v0 h
set_option maxHeartbeats 4000000 in
set_option maxRecDepth 200000 in
theorem p_C_copy_92 {h0 : MH} (v0 : Option Nat) (h : MH) (r : (Int32 × MH)) : b_C_copy_92  v0 h = some r → Rt mi_C_copy 5 h0 92 [(0, va_rf v0)] [] h (some (.int r.1)) r.2 := by
  intro hyp
  unfold b_C_copy_92 at hyp
  obtain ⟨x1, e2, hyp⟩ := Option.bind_eq_some_iff.mp hyp
  refine rt_st (pc1 := 97) (fun _ _ B => go_aload_n 0 d_C_copy_92 rfl (go_iconst (v := (2 : Int32)) d_C_copy_93 (by decide) (go_callV1 (q := q_10) (st := []) [.int (2 : Int32)] (t_C_found v0 (2 : Int32) h _ (onc_spec e2).2) mm_C_found (by decide) d_C_copy_94 (onc_spec e2).1 rfl rfl w317 w319 w0 rfl (Nat.le_of_ble_eq_true rfl) rfl B))) ?_
  exact rt_eqW Value.int hyp (rt_int d_C_copy_97 rfl)
set_option maxHeartbeats 4000000 in
set_option maxRecDepth 200000 in
theorem p_C_copy_39 {h0 : MH} (v0 : Option Nat) (h : MH) (r : (Int32 × MH)) : b_C_copy_39  v0 h = some r → Rt mi_C_copy 5 h0 39 [(0, va_rf v0)] [] h (some (.int r.1)) r.2 := by
  intro hyp
  unfold b_C_copy_39 at hyp
  obtain ⟨x1, e2, hyp⟩ := Option.bind_eq_some_iff.mp hyp
  refine rt_st (pc1 := 44) (fun _ _ B => go_aload_n 0 d_C_copy_39 rfl (go_iconst (v := (1 : Int32)) d_C_copy_40 (by decide) (go_callV1 (q := q_10) (st := []) [.int (1 : Int32)] (t_C_found v0 (1 : Int32) h _ (onc_spec e2).2) mm_C_found (by decide) d_C_copy_41 (onc_spec e2).1 rfl rfl w317 w319 w0 rfl (Nat.le_of_ble_eq_true rfl) rfl B))) ?_
  exact rt_eqW Value.int hyp (rt_int d_C_copy_44 rfl)
set_option maxHeartbeats 4000000 in
set_option maxRecDepth 200000 in
theorem t_C_copy (v0 : Option Nat) (v1 : Int32) (v2 : Int32) (v3 : Int32) (v4 : Int32) (v5 : Int32) (h : MH) (r : (Int32 × MH)) (hyp : f_C_copy v0 v1 v2 v3 v4 v5 h = some r) : Mt mi_C_copy 5 [va_rf v0, .int v1, .int v2, .int v3, .int v4, .int v5] h (some (.int r.1)) r.2 := by
  refine Mt.rt (lv := [(0, va_rf v0), (1, .int v1), (2, .int v2), (3, .int v3), (4, .int v4), (5, .int v5)]) (by decide +kernel) (by simp [lv_args, mj_rfc, mj_cti, mj_ctl]) (by simp [mj_rfc, mj_cti, mj_ctl]) ?_
  unfold f_C_copy at hyp
  refine rt_st (pc1 := 4) (fun _ _ B => go_iload_n 1 d_C_copy_0 rfl (go_callS1 (st := []) [.int v1] (t_C_isRow v1 h) mm_C_isRow (by decide) d_C_copy_1 w310 w311 rfl (Nat.le_of_ble_eq_true rfl) rfl B)) ?_
  by_cases c1 : (f_C_isRow v1) = 0
  · replace hyp := (if_pos c1).symm.trans hyp
    refine rt_st (pc1 := 16) (fun _ _ B => go_if_eq_t 14 d_C_copy_4 rfl c1 (go_ldc (v := (-1000001 : Int32)) d_C_copy_14 w316 B)) ?_
    exact rt_eqW Value.int hyp (rt_int d_C_copy_16 rfl)
  · replace hyp := (if_neg c1).symm.trans hyp
    refine rt_st (pc1 := 11) (fun _ _ B => go_if_eq_f d_C_copy_4 rfl c1 (go_iload_n 3 d_C_copy_7 rfl (go_callS1 (st := []) [.int v3] (t_C_isRow v3 h) mm_C_isRow (by decide) d_C_copy_8 w310 w311 rfl (Nat.le_of_ble_eq_true rfl) rfl B))) ?_
    by_cases c2 : (f_C_isRow v3) = 0
    · replace hyp := (if_pos c2).symm.trans hyp
      refine rt_st (pc1 := 16) (fun _ _ B => go_if_ne_f d_C_copy_11 rfl c2 (go_ldc (v := (-1000001 : Int32)) d_C_copy_14 w316 B)) ?_
      exact rt_eqW Value.int hyp (rt_int d_C_copy_16 rfl)
    · replace hyp := (if_neg c2).symm.trans hyp
      obtain ⟨x3, e4, hyp⟩ := Option.bind_eq_some_iff.mp hyp
      obtain ⟨x5, e6, hyp⟩ := Option.bind_eq_some_iff.mp hyp
      refine rt_st (pc1 := 25) (fun _ _ B => go_if_ne_t 17 d_C_copy_11 rfl c2 (go_aload_n 0 d_C_copy_17 rfl (go_gfr d_C_copy_18 fd_10_0 w275 e4 (go_iload_n 1 d_C_copy_21 rfl (go_callV1 (q := q_5) (st := []) [.int v1] (t_Rw_isMissing x3 v1 h _ (onc_spec e6).2) mm_Rw_isMissing (by decide) d_C_copy_22 (onc_spec e6).1 rfl rfl w337 w338 w339 rfl (Nat.le_of_ble_eq_true rfl) rfl B))))) ?_
      by_cases c7 : x5 = 0
      · replace hyp := (if_pos c7).symm.trans hyp
        obtain ⟨x8, e9, hyp⟩ := Option.bind_eq_some_iff.mp hyp
        obtain ⟨x10, e11, hyp⟩ := Option.bind_eq_some_iff.mp hyp
        refine rt_st (pc1 := 36) (fun _ _ B => go_if_ne_f d_C_copy_25 rfl c7 (go_aload_n 0 d_C_copy_28 rfl (go_gfr d_C_copy_29 fd_10_0 w275 e9 (go_iload_n 3 d_C_copy_32 rfl (go_callV1 (q := q_5) (st := []) [.int v3] (t_Rw_isMissing x8 v3 h _ (onc_spec e11).2) mm_Rw_isMissing (by decide) d_C_copy_33 (onc_spec e11).1 rfl rfl w337 w338 w339 rfl (Nat.le_of_ble_eq_true rfl) rfl B))))) ?_
        by_cases c12 : x10 = 0
        · replace hyp := (if_pos c12).symm.trans hyp
          obtain ⟨x13, e14, hyp⟩ := Option.bind_eq_some_iff.mp hyp
          obtain ⟨x15, e16, hyp⟩ := Option.bind_eq_some_iff.mp hyp
          refine rt_st (pc1 := 54) (fun _ _ B => go_if_eq_t 45 d_C_copy_36 rfl c12 (go_aload_n 0 d_C_copy_45 rfl (go_gfr d_C_copy_46 fd_10_0 w275 e14 (go_iload_n 1 d_C_copy_49 rfl (go_iload_n 3 d_C_copy_50 rfl (go_callV1 (q := q_5) (st := []) [.int v1, .int v3] (t_Rw_areAlike x13 v1 v3 h _ (onc_spec e16).2) mm_Rw_areAlike (by decide) d_C_copy_51 (onc_spec e16).1 rfl rfl w357 w358 w359 rfl (Nat.le_of_ble_eq_true rfl) rfl B)))))) ?_
          by_cases c17 : x15 = 0
          · replace hyp := (if_pos c17).symm.trans hyp
            obtain ⟨x18, e19, hyp⟩ := Option.bind_eq_some_iff.mp hyp
            refine rt_st (pc1 := 62) (fun _ _ B => go_if_ne_f d_C_copy_54 rfl c17 (go_aload_n 0 d_C_copy_57 rfl (go_iconst (v := (5 : Int32)) d_C_copy_58 (by decide) (go_callV1 (q := q_10) (st := []) [.int (5 : Int32)] (t_C_found v0 (5 : Int32) h _ (onc_spec e19).2) mm_C_found (by decide) d_C_copy_59 (onc_spec e19).1 rfl rfl w317 w319 w0 rfl (Nat.le_of_ble_eq_true rfl) rfl B)))) ?_
            exact rt_eqW Value.int hyp (rt_int d_C_copy_62 rfl)
          · replace hyp := (if_neg c17).symm.trans hyp
            obtain ⟨x20, e21, hyp⟩ := Option.bind_eq_some_iff.mp hyp
            obtain ⟨x22, e23, hyp⟩ := Option.bind_eq_some_iff.mp hyp
            refine rt_st (pc1 := 74) (fun _ _ B => go_if_ne_t 63 d_C_copy_54 rfl c17 (go_aload_n 0 d_C_copy_63 rfl (go_gfr d_C_copy_64 fd_10_0 w275 e21 (go_iload_n 1 d_C_copy_67 rfl (go_iload_n 2 d_C_copy_68 rfl (go_iload 5 d_C_copy_69 rfl (go_callV1 (q := q_5) (st := []) [.int v1, .int v2, .int v5] (t_Rw_holds x20 v1 v2 v5 h _ (onc_spec e23).2) mm_Rw_holds (by decide) d_C_copy_71 (onc_spec e23).1 rfl rfl w345 w346 w347 rfl (Nat.le_of_ble_eq_true rfl) rfl B))))))) ?_
            by_cases c24 : x22 = 0
            · replace hyp := (if_pos c24).symm.trans hyp
              refine rt_st (pc1 := 92) (fun _ _ B => go_if_eq_t 92 d_C_copy_74 rfl c24 B) ?_
              refine rt_sub [0] (lv1 := [(0, va_rf v0)]) rfl ?_
              exact p_C_copy_92 _ _ r hyp
            · replace hyp := (if_neg c24).symm.trans hyp
              obtain ⟨x25, e26, hyp⟩ := Option.bind_eq_some_iff.mp hyp
              obtain ⟨x27, e28, hyp⟩ := Option.bind_eq_some_iff.mp hyp
              refine rt_st (pc1 := 89) (fun _ _ B => go_if_eq_f d_C_copy_74 rfl c24 (go_aload_n 0 d_C_copy_77 rfl (go_gfr d_C_copy_78 fd_10_0 w275 e26 (go_iload_n 3 d_C_copy_81 rfl (go_iload 4 d_C_copy_82 rfl (go_iload 5 d_C_copy_84 rfl (go_callV1 (q := q_5) (st := []) [.int v3, .int v4, .int v5] (t_Rw_holds x25 v3 v4 v5 h _ (onc_spec e28).2) mm_Rw_holds (by decide) d_C_copy_86 (onc_spec e28).1 rfl rfl w345 w346 w347 rfl (Nat.le_of_ble_eq_true rfl) rfl B))))))) ?_
              by_cases c29 : x27 = 0
              · replace hyp := (if_pos c29).symm.trans hyp
                refine rt_st (pc1 := 92) (fun _ _ B => go_if_ne_f d_C_copy_89 rfl c29 B) ?_
                refine rt_sub [0] (lv1 := [(0, va_rf v0)]) rfl ?_
                exact p_C_copy_92 _ _ r hyp
              · replace hyp := (if_neg c29).symm.trans hyp
                obtain ⟨x30, e31, hyp⟩ := Option.bind_eq_some_iff.mp hyp
                obtain ⟨h32, e33, hyp⟩ := Option.bind_eq_some_iff.mp hyp
                obtain ⟨x34, e35, hyp⟩ := Option.bind_eq_some_iff.mp hyp
                refine rt_st (pc1 := 118) (fun _ _ B => go_if_ne_t 98 d_C_copy_89 rfl c29 (go_aload_n 0 d_C_copy_98 rfl (go_gfr d_C_copy_99 fd_10_0 w275 e31 (go_iload_n 1 d_C_copy_102 rfl (go_iload_n 2 d_C_copy_103 rfl (go_iload_n 3 d_C_copy_104 rfl (go_iload 4 d_C_copy_105 rfl (go_iload 5 d_C_copy_107 rfl (go_callV0 (q := q_5) (st := []) [.int v1, .int v2, .int v3, .int v4, .int v5] (t_Rw_carry x30 v1 v2 v3 v4 v5 h _ (onc_spec e33).2) mm_Rw_carry (by decide) d_C_copy_109 (onc_spec e33).1 rfl rfl w361 w362 w363 rfl (Nat.le_of_ble_eq_true rfl) rfl (go_aload_n 0 d_C_copy_112 rfl (go_iload 5 d_C_copy_113 rfl (go_callV1 (q := q_10) (st := []) [.int v5] (t_C_sound v0 v5 h32 _ (onc_spec e35).2) mm_C_sound (by decide) d_C_copy_115 (onc_spec e35).1 rfl rfl w329 w331 w1 rfl (Nat.le_of_ble_eq_true rfl) rfl B)))))))))))) ?_
                exact rt_eqW Value.int hyp (rt_int d_C_copy_118 rfl)
        · replace hyp := (if_neg c12).symm.trans hyp
          refine rt_st (pc1 := 39) (fun _ _ B => go_if_eq_f d_C_copy_36 rfl c12 B) ?_
          refine rt_sub [0] (lv1 := [(0, va_rf v0)]) rfl ?_
          exact p_C_copy_39 _ _ r hyp
      · replace hyp := (if_neg c7).symm.trans hyp
        refine rt_st (pc1 := 39) (fun _ _ B => go_if_ne_t 39 d_C_copy_25 rfl c7 B) ?_
        refine rt_sub [0] (lv1 := [(0, va_rf v0)]) rfl ?_
        exact p_C_copy_39 _ _ r hyp
/-! WideTurn.drop(I)I -/
def f_C_drop (v0 : Option Nat) (v1 : Int32) (h : MH) : Option (Int32 × MH) :=
  if (f_C_isRow v1) = 0 then
    some ((-1000001 : Int32), h)
  else
    Option.bind (gfr h v0 [10] 0) fun x2 =>
    Option.bind (onc h x2 5 (f_Rw_isMissing x2 v1 h)) fun x4 =>
    if x4 = 0 then
      Option.bind (gfr h v0 [10] 0) fun x7 =>
      Option.bind (onc h x7 5 (f_Rw_remove x7 v1 h)) fun x9 =>
      Option.bind (onc x9.2 v0 10 (f_C_sound v0 x9.1 x9.2)) fun x11 =>
      some (x11.1, x11.2)
    else
      Option.bind (onc h v0 10 (f_C_found v0 (1 : Int32) h)) fun x13 =>
      some (x13.1, x13.2)
set_option maxHeartbeats 4000000 in
set_option maxRecDepth 200000 in
theorem t_C_drop (v0 : Option Nat) (v1 : Int32) (h : MH) (r : (Int32 × MH)) (hyp : f_C_drop v0 v1 h = some r) : Mt mi_C_drop 4 [va_rf v0, .int v1] h (some (.int r.1)) r.2 := by
  refine Mt.rt (lv := [(0, va_rf v0), (1, .int v1)]) (by decide +kernel) (by simp [lv_args, mj_rfc, mj_cti, mj_ctl]) (by simp [mj_rfc, mj_cti, mj_ctl]) ?_
  unfold f_C_drop at hyp
  refine rt_st (pc1 := 4) (fun _ _ B => go_iload_n 1 d_C_drop_0 rfl (go_callS1 (st := []) [.int v1] (t_C_isRow v1 h) mm_C_isRow (by decide) d_C_drop_1 w310 w311 rfl (Nat.le_of_ble_eq_true rfl) rfl B)) ?_
  by_cases c1 : (f_C_isRow v1) = 0
  · replace hyp := (if_pos c1).symm.trans hyp
    refine rt_st (pc1 := 9) (fun _ _ B => go_if_ne_f d_C_drop_4 rfl c1 (go_ldc (v := (-1000001 : Int32)) d_C_drop_7 w316 B)) ?_
    exact rt_eqW Value.int hyp (rt_int d_C_drop_9 rfl)
  · replace hyp := (if_neg c1).symm.trans hyp
    obtain ⟨x2, e3, hyp⟩ := Option.bind_eq_some_iff.mp hyp
    obtain ⟨x4, e5, hyp⟩ := Option.bind_eq_some_iff.mp hyp
    refine rt_st (pc1 := 18) (fun _ _ B => go_if_ne_t 10 d_C_drop_4 rfl c1 (go_aload_n 0 d_C_drop_10 rfl (go_gfr d_C_drop_11 fd_10_0 w275 e3 (go_iload_n 1 d_C_drop_14 rfl (go_callV1 (q := q_5) (st := []) [.int v1] (t_Rw_isMissing x2 v1 h _ (onc_spec e5).2) mm_Rw_isMissing (by decide) d_C_drop_15 (onc_spec e5).1 rfl rfl w337 w338 w339 rfl (Nat.le_of_ble_eq_true rfl) rfl B))))) ?_
    by_cases c6 : x4 = 0
    · replace hyp := (if_pos c6).symm.trans hyp
      obtain ⟨x7, e8, hyp⟩ := Option.bind_eq_some_iff.mp hyp
      obtain ⟨x9, e10, hyp⟩ := Option.bind_eq_some_iff.mp hyp
      obtain ⟨x11, e12, hyp⟩ := Option.bind_eq_some_iff.mp hyp
      refine rt_st (pc1 := 39) (fun _ _ B => go_if_eq_t 27 d_C_drop_18 rfl c6 (go_aload_n 0 d_C_drop_27 rfl (go_aload_n 0 d_C_drop_28 rfl (go_gfr d_C_drop_29 fd_10_0 w275 e8 (go_iload_n 1 d_C_drop_32 rfl (go_callV1 (q := q_5) (st := [va_rf v0]) [.int v1] (t_Rw_remove x7 v1 h _ (onc_spec e10).2) mm_Rw_remove (by decide) d_C_drop_33 (onc_spec e10).1 rfl rfl w374 w375 w376 rfl (Nat.le_of_ble_eq_true rfl) rfl (go_callV1 (q := q_10) (st := []) [.int x9.1] (t_C_sound v0 x9.1 x9.2 _ (onc_spec e12).2) mm_C_sound (by decide) d_C_drop_36 (onc_spec e12).1 rfl rfl w329 w331 w1 rfl (Nat.le_of_ble_eq_true rfl) rfl B))))))) ?_
      exact rt_eqW Value.int hyp (rt_int d_C_drop_39 rfl)
    · replace hyp := (if_neg c6).symm.trans hyp
      obtain ⟨x13, e14, hyp⟩ := Option.bind_eq_some_iff.mp hyp
      refine rt_st (pc1 := 26) (fun _ _ B => go_if_eq_f d_C_drop_18 rfl c6 (go_aload_n 0 d_C_drop_21 rfl (go_iconst (v := (1 : Int32)) d_C_drop_22 (by decide) (go_callV1 (q := q_10) (st := []) [.int (1 : Int32)] (t_C_found v0 (1 : Int32) h _ (onc_spec e14).2) mm_C_found (by decide) d_C_drop_23 (onc_spec e14).1 rfl rfl w317 w319 w0 rfl (Nat.le_of_ble_eq_true rfl) rfl B)))) ?_
      exact rt_eqW Value.int hyp (rt_int d_C_drop_26 rfl)
/-! WideTurn.feed(I)I -/
def f_C_feed (v0 : Option Nat) (v1 : Int32) (h : MH) : Option (Int32 × MH) :=
  if v1 < 0 then
    some ((-1000001 : Int32), h)
  else
    if v1 ≤ (255 : Int32) then
      Option.bind (gfr h v0 [10] 1) fun x3 =>
      Option.bind (onc h x3 9 (f_T_append x3 v1 h)) fun x5 =>
      if x5.1 = 0 then
        some ((-1000003 : Int32), x5.2)
      else
        Option.bind (gfr x5.2 v0 [10] 1) fun x8 =>
        Option.bind (onc x5.2 x8 9 (f_T_length x8 x5.2)) fun x10 =>
        some (x10, x5.2)
    else
      some ((-1000001 : Int32), h)
set_option maxHeartbeats 4000000 in
set_option maxRecDepth 200000 in
theorem t_C_feed (v0 : Option Nat) (v1 : Int32) (h : MH) (r : (Int32 × MH)) (hyp : f_C_feed v0 v1 h = some r) : Mt mi_C_feed 3 [va_rf v0, .int v1] h (some (.int r.1)) r.2 := by
  refine Mt.rt (lv := [(0, va_rf v0), (1, .int v1)]) (by decide +kernel) (by simp [lv_args, mj_rfc, mj_cti, mj_ctl]) (by simp [mj_rfc, mj_cti, mj_ctl]) ?_
  unfold f_C_feed at hyp
  refine rt_st (pc1 := 1) (fun _ _ B => go_iload_n 1 d_C_feed_0 rfl B) ?_
  by_cases c1 : v1 < 0
  · replace hyp := (if_pos c1).symm.trans hyp
    refine rt_st (pc1 := 13) (fun _ _ B => go_if_lt_t 11 d_C_feed_1 rfl c1 (go_ldc (v := (-1000001 : Int32)) d_C_feed_11 w316 B)) ?_
    exact rt_eqW Value.int hyp (rt_int d_C_feed_13 rfl)
  · replace hyp := (if_neg c1).symm.trans hyp
    refine rt_st (pc1 := 8) (fun _ _ B => go_if_lt_f d_C_feed_1 rfl c1 (go_iload_n 1 d_C_feed_4 rfl (go_sipush (v := (255 : Int32)) d_C_feed_5 (by decide) B))) ?_
    by_cases c2 : v1 ≤ (255 : Int32)
    · replace hyp := (if_pos c2).symm.trans hyp
      obtain ⟨x3, e4, hyp⟩ := Option.bind_eq_some_iff.mp hyp
      obtain ⟨x5, e6, hyp⟩ := Option.bind_eq_some_iff.mp hyp
      refine rt_st (pc1 := 22) (fun _ _ B => go_icmp_le_t 14 d_C_feed_8 rfl c2 (go_aload_n 0 d_C_feed_14 rfl (go_gfr d_C_feed_15 fd_10_1 w276 e4 (go_iload_n 1 d_C_feed_18 rfl (go_callV1 (q := q_9) (st := []) [.int v1] (t_T_append x3 v1 h _ (onc_spec e6).2) mm_T_append (by decide) d_C_feed_19 (onc_spec e6).1 rfl rfl w382 w383 w384 rfl (Nat.le_of_ble_eq_true rfl) rfl B))))) ?_
      by_cases c7 : x5.1 = 0
      · replace hyp := (if_pos c7).symm.trans hyp
        refine rt_st (pc1 := 37) (fun _ _ B => go_if_eq_t 35 d_C_feed_22 rfl c7 (go_ldc (v := (-1000003 : Int32)) d_C_feed_35 w391 B)) ?_
        exact rt_eqW Value.int hyp (rt_int d_C_feed_37 rfl)
      · replace hyp := (if_neg c7).symm.trans hyp
        obtain ⟨x8, e9, hyp⟩ := Option.bind_eq_some_iff.mp hyp
        obtain ⟨x10, e11, hyp⟩ := Option.bind_eq_some_iff.mp hyp
        refine rt_st (pc1 := 37) (fun _ _ B => go_if_eq_f d_C_feed_22 rfl c7 (go_aload_n 0 d_C_feed_25 rfl (go_gfr d_C_feed_26 fd_10_1 w276 e9 (go_callV1 (q := q_9) (st := []) [] (t_T_length x8 x5.2 _ (onc_spec e11).2) mm_T_length (by decide) d_C_feed_29 (onc_spec e11).1 rfl rfl w387 w388 w389 rfl (Nat.le_of_ble_eq_true rfl) rfl (go_goto 37 d_C_feed_32 rfl B))))) ?_
        exact rt_eqW Value.int hyp (rt_int d_C_feed_37 rfl)
    · replace hyp := (if_neg c2).symm.trans hyp
      refine rt_st (pc1 := 13) (fun _ _ B => go_icmp_le_f d_C_feed_8 rfl c2 (go_ldc (v := (-1000001 : Int32)) d_C_feed_11 w316 B)) ?_
      exact rt_eqW Value.int hyp (rt_int d_C_feed_13 rfl)
/-! WideTurn.basin()I -/
def f_C_basin (F : Nat) (v0 : Option Nat) (h : MH) : Option (Int32 × MH) :=
  Option.bind (gfr h v0 [10] 1) fun x1 =>
  Option.bind (gfr h v0 [10] 5) fun x3 =>
  Option.bind (onc h x1 9 (f_T_read F x1 x3 h)) fun x5 =>
  if x5.1 = 0 then
    Option.bind (gfr x5.2 v0 [10] 1) fun x8 =>
    Option.bind (onc x5.2 x8 9 (f_T_faultPlace x8 x5.2)) fun x10 =>
    some (((-1000100 : Int32) - x10), x5.2)
  else
    Option.bind (gfr x5.2 v0 [10] 4) fun x12 =>
    Option.bind (gfr x5.2 v0 [10] 5) fun x14 =>
    Option.bind (onc x5.2 x12 1 (f_B_become F x12 x14 x5.2)) fun h16 =>
    Option.bind (pfv h16 v0 [10] 8 (.int (1 : Int32))) fun h18 =>
    Option.bind (gfr h18 v0 [10] 2) fun x20 =>
    Option.bind (onc h18 x20 0 (f_A_forget x20 h18)) fun h22 =>
    Option.bind (gfr h22 v0 [10] 4) fun x24 =>
    Option.bind (gfi h22 x24 [1] 8) fun x26 =>
    some (x26, h22)
set_option maxHeartbeats 4000000 in
set_option maxRecDepth 200000 in
theorem t_C_basin (F : Nat) (v0 : Option Nat) (h : MH) (r : (Int32 × MH)) (hyp : f_C_basin F v0 h = some r) : Mt mi_C_basin 8 [va_rf v0] h (some (.int r.1)) r.2 := by
  refine Mt.rt (lv := [(0, va_rf v0)]) (by decide +kernel) (by simp [lv_args, mj_rfc, mj_cti, mj_ctl]) (by simp [mj_rfc, mj_cti, mj_ctl]) ?_
  unfold f_C_basin at hyp
  obtain ⟨x1, e2, hyp⟩ := Option.bind_eq_some_iff.mp hyp
  obtain ⟨x3, e4, hyp⟩ := Option.bind_eq_some_iff.mp hyp
  obtain ⟨x5, e6, hyp⟩ := Option.bind_eq_some_iff.mp hyp
  refine rt_st (pc1 := 11) (fun _ _ B => go_aload_n 0 d_C_basin_0 rfl (go_gfr d_C_basin_1 fd_10_1 w276 e2 (go_aload_n 0 d_C_basin_4 rfl (go_gfr d_C_basin_5 fd_10_5 w280 e4 (go_callV1 (q := q_9) (st := []) [va_rf x3] (t_T_read F x1 x3 h _ (onc_spec e6).2) mm_T_read (by decide) d_C_basin_8 (onc_spec e6).1 rfl rfl w396 w397 w398 rfl (Nat.le_of_ble_eq_true rfl) rfl B))))) ?_
  by_cases c7 : x5.1 = 0
  · replace hyp := (if_pos c7).symm.trans hyp
    obtain ⟨x8, e9, hyp⟩ := Option.bind_eq_some_iff.mp hyp
    obtain ⟨x10, e11, hyp⟩ := Option.bind_eq_some_iff.mp hyp
    refine rt_st (pc1 := 24) (fun _ _ B => go_if_ne_f d_C_basin_11 rfl c7 (go_ldc (v := (-1000100 : Int32)) d_C_basin_14 w521 (go_aload_n 0 d_C_basin_16 rfl (go_gfr d_C_basin_17 fd_10_1 w276 e9 (go_callV1 (q := q_9) (st := [.int (-1000100 : Int32)]) [] (t_T_faultPlace x8 x5.2 _ (onc_spec e11).2) mm_T_faultPlace (by decide) d_C_basin_20 (onc_spec e11).1 rfl rfl w522 w523 w524 rfl (Nat.le_of_ble_eq_true rfl) rfl (go_isub d_C_basin_23 B)))))) ?_
    exact rt_eqW Value.int hyp (rt_int d_C_basin_24 rfl)
  · replace hyp := (if_neg c7).symm.trans hyp
    obtain ⟨x12, e13, hyp⟩ := Option.bind_eq_some_iff.mp hyp
    obtain ⟨x14, e15, hyp⟩ := Option.bind_eq_some_iff.mp hyp
    obtain ⟨h16, e17, hyp⟩ := Option.bind_eq_some_iff.mp hyp
    obtain ⟨h18, e19, hyp⟩ := Option.bind_eq_some_iff.mp hyp
    obtain ⟨x20, e21, hyp⟩ := Option.bind_eq_some_iff.mp hyp
    obtain ⟨h22, e23, hyp⟩ := Option.bind_eq_some_iff.mp hyp
    obtain ⟨x24, e25, hyp⟩ := Option.bind_eq_some_iff.mp hyp
    obtain ⟨x26, e27, hyp⟩ := Option.bind_eq_some_iff.mp hyp
    refine rt_st (pc1 := 55) (fun _ _ B => go_if_ne_t 25 d_C_basin_11 rfl c7 (go_aload_n 0 d_C_basin_25 rfl (go_gfr d_C_basin_26 fd_10_4 w279 e13 (go_aload_n 0 d_C_basin_29 rfl (go_gfr d_C_basin_30 fd_10_5 w280 e15 (go_callV0 (q := q_1) (st := []) [va_rf x14] (t_B_become F x12 x14 x5.2 _ (onc_spec e17).2) mm_B_become (by decide) d_C_basin_33 (onc_spec e17).1 rfl rfl w526 w527 w528 rfl (Nat.le_of_ble_eq_true rfl) rfl (go_aload_n 0 d_C_basin_36 rfl (go_iconst (v := (1 : Int32)) d_C_basin_37 (by decide) (go_pfz d_C_basin_38 fd_10_8 w283 (fun q => by cases q) (by decide) e19 (go_aload_n 0 d_C_basin_41 rfl (go_gfr d_C_basin_42 fd_10_2 w277 e21 (go_callV0 (q := q_0) (st := []) [] (t_A_forget x20 h18 _ (onc_spec e23).2) mm_A_forget (by decide) d_C_basin_45 (onc_spec e23).1 rfl rfl w532 w533 w534 rfl (Nat.le_of_ble_eq_true rfl) rfl (go_aload_n 0 d_C_basin_48 rfl (go_gfr d_C_basin_49 fd_10_4 w279 e25 (go_gfi d_C_basin_52 fd_1_8 w244 e27 B))))))))))))))) ?_
    exact rt_eqW Value.int hyp (rt_int d_C_basin_55 rfl)
/-! WideTurn.fault()I -/
def f_C_fault (v0 : Option Nat) (h : MH) : Option (Int32) :=
  Option.bind (gfr h v0 [10] 1) fun x1 =>
  Option.bind (onc h x1 9 (f_T_latestFault x1 h)) fun x3 =>
  some x3
set_option maxHeartbeats 4000000 in
set_option maxRecDepth 200000 in
theorem t_C_fault (v0 : Option Nat) (h : MH) (r : (Int32)) (hyp : f_C_fault v0 h = some r) : Mt mi_C_fault 2 [va_rf v0] h (some (.int r)) h := by
  refine Mt.rt (lv := [(0, va_rf v0)]) (by decide +kernel) (by simp [lv_args, mj_rfc, mj_cti, mj_ctl]) (by simp [mj_rfc, mj_cti, mj_ctl]) ?_
  unfold f_C_fault at hyp
  obtain ⟨x1, e2, hyp⟩ := Option.bind_eq_some_iff.mp hyp
  obtain ⟨x3, e4, hyp⟩ := Option.bind_eq_some_iff.mp hyp
  refine rt_st (pc1 := 7) (fun _ _ B => go_aload_n 0 d_C_fault_0 rfl (go_gfr d_C_fault_1 fd_10_1 w276 e2 (go_callV1 (q := q_9) (st := []) [] (t_T_latestFault x1 h _ (onc_spec e4).2) mm_T_latestFault (by decide) d_C_fault_4 (onc_spec e4).1 rfl rfl w540 w541 w542 rfl (Nat.le_of_ble_eq_true rfl) rfl B))) ?_
  exact rt_eqR Value.int hyp (rt_int d_C_fault_7 rfl)
/-! WideTurn.undo()I -/
def f_C_undo (F : Nat) (v0 : Option Nat) (h : MH) : Option (Int32 × MH) :=
  Option.bind (gfr h v0 [10] 2) fun x1 =>
  Option.bind (onc h x1 0 (f_A_kept x1 h)) fun x3 =>
  if x3 = 0 then
    some ((-1000002 : Int32), h)
  else
    Option.bind (gfr h v0 [10] 2) fun x6 =>
    Option.bind (gfr h v0 [10] 4) fun x8 =>
    Option.bind (onc h x6 0 (f_A_takeBack F x6 x8 h)) fun h10 =>
    Option.bind (gfr h10 v0 [10] 2) fun x12 =>
    Option.bind (onc h10 x12 0 (f_A_kept x12 h10)) fun x14 =>
    some (x14, h10)
set_option maxHeartbeats 4000000 in
set_option maxRecDepth 200000 in
theorem t_C_undo (F : Nat) (v0 : Option Nat) (h : MH) (r : (Int32 × MH)) (hyp : f_C_undo F v0 h = some r) : Mt mi_C_undo 3 [va_rf v0] h (some (.int r.1)) r.2 := by
  refine Mt.rt (lv := [(0, va_rf v0)]) (by decide +kernel) (by simp [lv_args, mj_rfc, mj_cti, mj_ctl]) (by simp [mj_rfc, mj_cti, mj_ctl]) ?_
  unfold f_C_undo at hyp
  obtain ⟨x1, e2, hyp⟩ := Option.bind_eq_some_iff.mp hyp
  obtain ⟨x3, e4, hyp⟩ := Option.bind_eq_some_iff.mp hyp
  refine rt_st (pc1 := 7) (fun _ _ B => go_aload_n 0 d_C_undo_0 rfl (go_gfr d_C_undo_1 fd_10_2 w277 e2 (go_callV1 (q := q_0) (st := []) [] (t_A_kept x1 h _ (onc_spec e4).2) mm_A_kept (by decide) d_C_undo_4 (onc_spec e4).1 rfl rfl w548 w549 w550 rfl (Nat.le_of_ble_eq_true rfl) rfl B))) ?_
  by_cases c5 : x3 = 0
  · replace hyp := (if_pos c5).symm.trans hyp
    refine rt_st (pc1 := 12) (fun _ _ B => go_if_ne_f d_C_undo_7 rfl c5 (go_ldc (v := (-1000002 : Int32)) d_C_undo_10 w552 B)) ?_
    exact rt_eqW Value.int hyp (rt_int d_C_undo_12 rfl)
  · replace hyp := (if_neg c5).symm.trans hyp
    obtain ⟨x6, e7, hyp⟩ := Option.bind_eq_some_iff.mp hyp
    obtain ⟨x8, e9, hyp⟩ := Option.bind_eq_some_iff.mp hyp
    obtain ⟨h10, e11, hyp⟩ := Option.bind_eq_some_iff.mp hyp
    obtain ⟨x12, e13, hyp⟩ := Option.bind_eq_some_iff.mp hyp
    obtain ⟨x14, e15, hyp⟩ := Option.bind_eq_some_iff.mp hyp
    refine rt_st (pc1 := 31) (fun _ _ B => go_if_ne_t 13 d_C_undo_7 rfl c5 (go_aload_n 0 d_C_undo_13 rfl (go_gfr d_C_undo_14 fd_10_2 w277 e7 (go_aload_n 0 d_C_undo_17 rfl (go_gfr d_C_undo_18 fd_10_4 w279 e9 (go_callV0 (q := q_0) (st := []) [va_rf x8] (t_A_takeBack F x6 x8 h _ (onc_spec e11).2) mm_A_takeBack (by decide) d_C_undo_21 (onc_spec e11).1 rfl rfl w553 w554 w555 rfl (Nat.le_of_ble_eq_true rfl) rfl (go_aload_n 0 d_C_undo_24 rfl (go_gfr d_C_undo_25 fd_10_2 w277 e13 (go_callV1 (q := q_0) (st := []) [] (t_A_kept x12 h10 _ (onc_spec e15).2) mm_A_kept (by decide) d_C_undo_28 (onc_spec e15).1 rfl rfl w548 w549 w550 rfl (Nat.le_of_ble_eq_true rfl) rfl B))))))))) ?_
    exact rt_eqW Value.int hyp (rt_int d_C_undo_31 rfl)
