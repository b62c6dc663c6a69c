/-! WideTurn.Basin.make(I)V -/
def b_B_make_93 : (Option Nat) → (Int32) → (MH) → (Option MH) := fun s0 s1 h => 
  Option.bind (pfv h s0 [1] 3 (.int s1)) fun h1 =>
  some h1
def f_B_make (v0 : Option Nat) (v1 : Int32) (h : MH) : Option MH :=
  Option.bind (gfi h v0 [1] 3) fun x1 =>
  Option.bind (gfi h v0 [1] 4) fun x3 =>
  Option.bind (f_C_middleBehind x1 x3 v1 h) fun x5 =>
  Option.bind (pfv h v0 [1] 3 (.int x5)) fun h7 =>
  Option.bind (gfi h7 v0 [1] 4) fun x9 =>
  Option.bind (pfv h7 v0 [1] 4 (.int (f_C_turnBehind x9 v1))) fun h11 =>
  Option.bind (gfi h11 v0 [1] 6) fun x13 =>
  Option.bind (pfv h11 v0 [1] 6 (.int (x13 + (1 : Int32)))) fun h15 =>
  Option.bind (gfi h15 v0 [1] 6) fun x17 =>
  if (mj_irem x17 (3 : Int32)) = 0 then
    Option.bind (onc h15 v0 1 (f_B_isBlown v0 h15)) fun x20 =>
    if x20 = 0 then
      some h15
    else
      Option.bind (gfi h15 v0 [1] 3) fun x23 =>
      Option.bind (gfi h15 v0 [1] 0) fun x25 =>
      Option.bind (f_C_beside x23 (x25 - (1 : Int32)) h15) fun x27 =>
      Option.bind (gfi h15 v0 [1] 4) fun x29 =>
      Option.bind (onc h15 v0 1 (f_B_shallowest v0 x27 x29 h15)) fun x31 =>
      Option.bind (onc h15 v0 1 (f_B_sinks v0 h15)) fun x33 =>
      if x31 < x33 then
        Option.bind (gfi h15 v0 [1] 3) fun x36 =>
        b_B_make_93 v0 x36 h15
      else
        b_B_make_93 v0 x27 h15
  else
    some h15
set_option maxHeartbeats 4000000 in
set_option maxRecDepth 200000 in
theorem p_B_make_93 {h0 : MH} (s0 : Option Nat) (s1 : Int32) (h : MH) (r : MH) : b_B_make_93  s0 s1 h = some r → Rt mi_B_make 3 h0 93 [] [.int s1, va_rf s0] h none r := by
  intro hyp
  unfold b_B_make_93 at hyp
  obtain ⟨h1, e2, hyp⟩ := Option.bind_eq_some_iff.mp hyp
  refine rt_st (pc1 := 96) (fun _ _ B => go_pfi d_B_make_93 fd_1_3 w222 (fun q => by cases q) e2 B) ?_
  exact rt_eq0 hyp (rt_void d_B_make_96 rfl)
set_option maxHeartbeats 4000000 in
set_option maxRecDepth 200000 in
theorem t_B_make (v0 : Option Nat) (v1 : Int32) (h : MH) (r : MH) (hyp : f_B_make v0 v1 h = some r) : Mt mi_B_make 3 [va_rf v0, .int v1] h none r := by
  refine Mt.rt (lv := [(0, va_rf v0), (1, .int v1)]) (by decide +kernel) (by simp [lv_args, mj_rfc, mj_cti, mj_ctl]) (by simp [mj_rfc, mj_cti, mj_ctl]) ?_
  unfold f_B_make at hyp
  obtain ⟨x1, e2, hyp⟩ := Option.bind_eq_some_iff.mp hyp
  obtain ⟨x3, e4, hyp⟩ := Option.bind_eq_some_iff.mp hyp
  obtain ⟨x5, e6, hyp⟩ := Option.bind_eq_some_iff.mp hyp
  obtain ⟨h7, e8, hyp⟩ := Option.bind_eq_some_iff.mp hyp
  obtain ⟨x9, e10, hyp⟩ := Option.bind_eq_some_iff.mp hyp
  obtain ⟨h11, e12, hyp⟩ := Option.bind_eq_some_iff.mp hyp
  obtain ⟨x13, e14, hyp⟩ := Option.bind_eq_some_iff.mp hyp
  obtain ⟨h15, e16, hyp⟩ := Option.bind_eq_some_iff.mp hyp
  obtain ⟨x17, e18, hyp⟩ := Option.bind_eq_some_iff.mp hyp
  refine rt_st (pc1 := 44) (fun _ _ B => go_aload_n 0 d_B_make_0 rfl (go_aload_n 0 d_B_make_1 rfl (go_gfi d_B_make_2 fd_1_3 w222 e2 (go_aload_n 0 d_B_make_5 rfl (go_gfi d_B_make_6 fd_1_4 w228 e4 (go_iload_n 1 d_B_make_9 rfl (go_callSN1 (st := [va_rf v0]) [.int x1, .int x3, .int v1] (t_C_middleBehind x1 x3 v1 h _ e6) mm_C_middleBehind (by decide) d_B_make_10 w608 w609 rfl (Nat.le_of_ble_eq_true rfl) rfl (go_pfi d_B_make_13 fd_1_3 w222 (fun q => by cases q) e8 (go_aload_n 0 d_B_make_16 rfl (go_aload_n 0 d_B_make_17 rfl (go_gfi d_B_make_18 fd_1_4 w228 e10 (go_iload_n 1 d_B_make_21 rfl (go_callSN1 (st := [va_rf v0]) [.int x9, .int v1] (t_C_turnBehind x9 v1 h7) mm_C_turnBehind (by decide) d_B_make_22 w621 w619 rfl (Nat.le_of_ble_eq_true rfl) rfl (go_pfi d_B_make_25 fd_1_4 w228 (fun q => by cases q) e12 (go_aload_n 0 d_B_make_28 rfl (go_dup d_B_make_29 (mj_rfc _) (go_gfi d_B_make_30 fd_1_6 w235 e14 (go_iconst (v := (1 : Int32)) d_B_make_33 (by decide) (go_iadd d_B_make_34 (go_pfi d_B_make_35 fd_1_6 w235 (fun q => by cases q) e16 (go_aload_n 0 d_B_make_38 rfl (go_gfi d_B_make_39 fd_1_6 w235 e18 (go_iconst (v := (3 : Int32)) d_B_make_42 (by decide) (go_irem d_B_make_43 (by decide) B)))))))))))))))))))))))) ?_
  by_cases c19 : (mj_irem x17 (3 : Int32)) = 0
  · replace hyp := (if_pos c19).symm.trans hyp
    obtain ⟨x20, e21, hyp⟩ := Option.bind_eq_some_iff.mp hyp
    refine rt_st (pc1 := 51) (fun _ _ B => go_if_ne_f d_B_make_44 rfl c19 (go_aload_n 0 d_B_make_47 rfl (go_callV1 (q := q_1) (st := []) [] (t_B_isBlown v0 h15 _ (onc_spec e21).2) mm_B_isBlown (by decide) d_B_make_48 (onc_spec e21).1 rfl rfl w643 w644 w645 rfl (Nat.le_of_ble_eq_true rfl) rfl B))) ?_
    by_cases c22 : x20 = 0
    · replace hyp := (if_pos c22).symm.trans hyp
      refine rt_st (pc1 := 96) (fun _ _ B => go_if_eq_t 96 d_B_make_51 rfl c22 B) ?_
      exact rt_eq0 hyp (rt_void d_B_make_96 rfl)
    · replace hyp := (if_neg c22).symm.trans hyp
      obtain ⟨x23, e24, hyp⟩ := Option.bind_eq_some_iff.mp hyp
      obtain ⟨x25, e26, hyp⟩ := Option.bind_eq_some_iff.mp hyp
      obtain ⟨x27, e28, hyp⟩ := Option.bind_eq_some_iff.mp hyp
      obtain ⟨x29, e30, hyp⟩ := Option.bind_eq_some_iff.mp hyp
      obtain ⟨x31, e32, hyp⟩ := Option.bind_eq_some_iff.mp hyp
      obtain ⟨x33, e34, hyp⟩ := Option.bind_eq_some_iff.mp hyp
      refine rt_st (pc1 := 82) (fun _ _ B => go_if_eq_f d_B_make_51 rfl c22 (go_aload_n 0 d_B_make_54 rfl (go_gfi d_B_make_55 fd_1_3 w222 e24 (go_aload_n 0 d_B_make_58 rfl (go_gfi d_B_make_59 fd_1_0 w213 e26 (go_iconst (v := (1 : Int32)) d_B_make_62 (by decide) (go_isub d_B_make_63 (go_callSN1 (st := []) [.int x23, .int (x25 - (1 : Int32))] (t_C_beside x23 (x25 - (1 : Int32)) h15 _ e28) mm_C_beside (by decide) d_B_make_64 w630 w612 rfl (Nat.le_of_ble_eq_true rfl) rfl (go_istore_n (lv1 := [(2, .int x27), (0, va_rf v0), (1, .int v1)]) d_B_make_67 (by decide) rfl (go_aload_n 1 d_B_make_68 rfl (go_aload_n 1 d_B_make_69 rfl (go_iload_n 0 d_B_make_70 rfl (go_aload_n 1 d_B_make_71 rfl (go_gfi d_B_make_72 fd_1_4 w228 e30 (go_callV1 (q := q_1) (st := [va_rf v0]) [.int x27, .int x29] (t_B_shallowest v0 x27 x29 h15 _ (onc_spec e32).2) mm_B_shallowest (by decide) d_B_make_75 (onc_spec e32).1 rfl rfl w622 w623 w624 rfl (Nat.le_of_ble_eq_true rfl) rfl (go_aload_n 1 d_B_make_78 rfl (go_callV1 (q := q_1) (st := [.int x31, va_rf v0]) [] (t_B_sinks v0 h15 _ (onc_spec e34).2) mm_B_sinks (by decide) d_B_make_79 (onc_spec e34).1 rfl rfl w575 w576 w577 rfl (Nat.le_of_ble_eq_true rfl) rfl B))))))))))))))))) ?_
      by_cases c35 : x31 < x33
      · replace hyp := (if_pos c35).symm.trans hyp
        obtain ⟨x36, e37, hyp⟩ := Option.bind_eq_some_iff.mp hyp
        refine rt_st (pc1 := 93) (fun _ _ B => go_icmp_lt_t 89 d_B_make_82 rfl c35 (go_aload_n 1 d_B_make_89 rfl (go_gfi d_B_make_90 fd_1_3 w222 e37 B))) ?_
        refine rt_sub [] (lv1 := []) rfl ?_
        exact p_B_make_93 _ _ _ r hyp
      · replace hyp := (if_neg c35).symm.trans hyp
        refine rt_st (pc1 := 93) (fun _ _ B => go_icmp_lt_f d_B_make_82 rfl c35 (go_iload_n 0 d_B_make_85 rfl (go_goto 93 d_B_make_86 rfl B))) ?_
        refine rt_sub [] (lv1 := []) rfl ?_
        exact p_B_make_93 _ _ _ r hyp
  · replace hyp := (if_neg c19).symm.trans hyp
    refine rt_st (pc1 := 96) (fun _ _ B => go_if_ne_t 96 d_B_make_44 rfl c19 B) ?_
    exact rt_eq0 hyp (rt_void d_B_make_96 rfl)
/-! WideTurn.Basin.siltUp()I -/
def b_B_siltUp_45 (F : Nat) (k4 : (Option Nat) → Int32 → Int32 → MH → (Option (Int32 × MH))) : (Option Nat) → (Int32) → (Int32) → (MH) → (Option (Int32 × MH)) := fun v0 v1 v2 h => 
  k4 v0 v1 (v2 + (1 : Int32)) h
def b_B_siltUp_4 (F : Nat) : Nat → (Option Nat) → (Int32) → (Int32) → (MH) → (Option (Int32 × MH))
  | 0 => fun _ _ _ _ => none
  | n + 1 => fun v0 v1 v2 h => 
    if (24 : Int32) ≤ v2 then
      some (v1, h)
    else
      Option.bind (gfr h v0 [1] 9) fun x2 =>
      Option.bind (f_C_at x2 v2 h) fun x4 =>
      if x4 ≤ 0 then
        b_B_siltUp_45 F (b_B_siltUp_4 F n) v0 v1 v2 h
      else
        Option.bind (gfr h v0 [1] 9) fun x7 =>
        Option.bind (gfr h v0 [1] 9) fun x9 =>
        Option.bind (f_C_at x9 v2 h) fun x11 =>
        Option.bind (f_C_put x7 v2 (x11 - (1 : Int32)) h) fun h13 =>
        b_B_siltUp_45 F (b_B_siltUp_4 F n) v0 (v1 ||| ((1 : Int32) <<< (v2 &&& 31))) v2 h13
def f_B_siltUp (F : Nat) (v0 : Option Nat) (h : MH) : Option (Int32 × MH) :=
  b_B_siltUp_4 F F v0 (0 : Int32) (0 : Int32) h
set_option maxHeartbeats 4000000 in
set_option maxRecDepth 200000 in
theorem p_B_siltUp_45 (F : Nat) {h0 : MH} (k4 : (Option Nat) → Int32 → Int32 → MH → (Option (Int32 × MH))) (hk4 : ∀ (v0 : Option Nat) (v1 : Int32) (v2 : Int32) (h : MH) (r : (Int32 × MH)), k4 v0 v1 v2 h = some r → Rt mi_B_siltUp 2 h0 4 [(0, va_rf v0), (1, .int v1), (2, .int v2)] [] h (some (.int r.1)) r.2) (v0 : Option Nat) (v1 : Int32) (v2 : Int32) (h : MH) (r : (Int32 × MH)) : b_B_siltUp_45 F k4  v0 v1 v2 h = some r → Rt mi_B_siltUp 2 h0 45 [(0, va_rf v0), (1, .int v1), (2, .int v2)] [] h (some (.int r.1)) r.2 := by
  intro hyp
  unfold b_B_siltUp_45 at hyp
  refine rt_st (pc1 := 4) (fun _ _ B => go_iinc (v := (v2 + (1 : Int32))) (lv1 := [(2, .int (v2 + (1 : Int32))), (0, va_rf v0), (1, .int v1)]) 2 d_B_siltUp_45 rfl rfl (by decide) rfl (go_goto 4 d_B_siltUp_48 rfl B)) ?_
  refine rt_sub [1, 2, 0] (lv1 := [(0, va_rf v0), (1, .int v1), (2, .int (v2 + (1 : Int32)))]) rfl ?_
  exact hk4 _ _ _ _ _ hyp
set_option maxHeartbeats 4000000 in
set_option maxRecDepth 200000 in
theorem p_B_siltUp_4 (F : Nat) {h0 : MH} : ∀ (n : Nat) (v0 : Option Nat) (v1 : Int32) (v2 : Int32) (h : MH) (r : (Int32 × MH)), b_B_siltUp_4 F  n v0 v1 v2 h = some r → Rt mi_B_siltUp 2 h0 4 [(0, va_rf v0), (1, .int v1), (2, .int v2)] [] h (some (.int r.1)) r.2 := by
  intro n
  induction n with
  | zero =>
    intro v0 v1 v2 h r hyp
    cases hyp
  | succ n ih =>
    intro v0 v1 v2 h r hyp
    unfold b_B_siltUp_4 at hyp
    refine rt_st (pc1 := 7) (fun _ _ B => go_iload_n 2 d_B_siltUp_4 rfl (go_bipush (v := (24 : Int32)) d_B_siltUp_5 (by decide) B)) ?_
    by_cases c1 : (24 : Int32) ≤ v2
    · replace hyp := (if_pos c1).symm.trans hyp
      refine rt_st (pc1 := 52) (fun _ _ B => go_icmp_ge_t 51 d_B_siltUp_7 rfl c1 (go_iload_n 1 d_B_siltUp_51 rfl B)) ?_
      exact rt_eqW Value.int hyp (rt_int d_B_siltUp_52 rfl)
    · replace hyp := (if_neg c1).symm.trans hyp
      obtain ⟨x2, e3, hyp⟩ := Option.bind_eq_some_iff.mp hyp
      obtain ⟨x4, e5, hyp⟩ := Option.bind_eq_some_iff.mp hyp
      refine rt_st (pc1 := 18) (fun _ _ B => go_icmp_ge_f d_B_siltUp_7 rfl c1 (go_aload_n 0 d_B_siltUp_10 rfl (go_gfr d_B_siltUp_11 fd_1_9 w246 e3 (go_iload_n 2 d_B_siltUp_14 rfl (go_callSN1 (st := []) [va_rf x2, .int v2] (t_C_at x2 v2 h _ e5) mm_C_at (by decide) d_B_siltUp_15 w530 w343 rfl (Nat.le_of_ble_eq_true rfl) rfl B))))) ?_
      by_cases c6 : x4 ≤ 0
      · replace hyp := (if_pos c6).symm.trans hyp
        refine rt_st (pc1 := 45) (fun _ _ B => go_if_le_t 45 d_B_siltUp_18 rfl c6 B) ?_
        exact p_B_siltUp_45 F (b_B_siltUp_4 F n) (fun a0 a1 a2 a3 r hyp => ih a0 a1 a2 a3 r hyp) _ _ _ _ r hyp
      · replace hyp := (if_neg c6).symm.trans hyp
        obtain ⟨x7, e8, hyp⟩ := Option.bind_eq_some_iff.mp hyp
        obtain ⟨x9, e10, hyp⟩ := Option.bind_eq_some_iff.mp hyp
        obtain ⟨x11, e12, hyp⟩ := Option.bind_eq_some_iff.mp hyp
        obtain ⟨h13, e14, hyp⟩ := Option.bind_eq_some_iff.mp hyp
        refine rt_st (pc1 := 45) (fun _ _ B => go_if_le_f d_B_siltUp_18 rfl c6 (go_aload_n 0 d_B_siltUp_21 rfl (go_gfr d_B_siltUp_22 fd_1_9 w246 e8 (go_iload_n 2 d_B_siltUp_25 rfl (go_aload_n 0 d_B_siltUp_26 rfl (go_gfr d_B_siltUp_27 fd_1_9 w246 e10 (go_iload_n 2 d_B_siltUp_30 rfl (go_callSN1 (st := [.int v2, va_rf x7]) [va_rf x9, .int v2] (t_C_at x9 v2 h _ e12) mm_C_at (by decide) d_B_siltUp_31 w530 w343 rfl (Nat.le_of_ble_eq_true rfl) rfl (go_iconst (v := (1 : Int32)) d_B_siltUp_34 (by decide) (go_isub d_B_siltUp_35 (go_callSN0 (st := []) [va_rf x7, .int v2, .int (x11 - (1 : Int32))] (t_C_put x7 v2 (x11 - (1 : Int32)) h _ e14) mm_C_put (by decide) d_B_siltUp_36 w531 w327 rfl (Nat.le_of_ble_eq_true rfl) rfl (go_iload_n 1 d_B_siltUp_39 rfl (go_iconst (v := (1 : Int32)) d_B_siltUp_40 (by decide) (go_iload_n 2 d_B_siltUp_41 rfl (go_ishl d_B_siltUp_42 (go_ior d_B_siltUp_43 (go_istore_n (lv1 := [(1, .int (v1 ||| ((1 : Int32) <<< (v2 &&& 31)))), (0, va_rf v0), (2, .int v2)]) d_B_siltUp_44 (by decide) (by first | (simp [mj_s1, mj_s2, mj_rfc, mj_cti, mj_ctl]; done) | (simp [mj_s1, mj_s2, mj_rfc, mj_cti, mj_ctl]; decide)) B))))))))))))))))) ?_
        refine rt_sub [1, 0, 2] (lv1 := [(0, va_rf v0), (1, .int (v1 ||| ((1 : Int32) <<< (v2 &&& 31)))), (2, .int v2)]) rfl ?_
        exact p_B_siltUp_45 F (b_B_siltUp_4 F n) (fun a0 a1 a2 a3 r hyp => ih a0 a1 a2 a3 r hyp) _ _ _ _ r hyp
set_option maxHeartbeats 4000000 in
set_option maxRecDepth 200000 in
theorem t_B_siltUp (F : Nat) (v0 : Option Nat) (h : MH) (r : (Int32 × MH)) (hyp : f_B_siltUp F v0 h = some r) : Mt mi_B_siltUp 2 [va_rf v0] h (some (.int r.1)) r.2 := by
  refine Mt.rt (lv := [(0, va_rf v0)]) (by decide +kernel) (by simp [lv_args, mj_rfc, mj_cti, mj_ctl]) (by simp [mj_rfc, mj_cti, mj_ctl]) ?_
  unfold f_B_siltUp at hyp
  refine rt_st (pc1 := 4) (fun _ _ B => go_iconst (v := (0 : Int32)) d_B_siltUp_0 (by decide) (go_istore_n (lv1 := [(1, .int (0 : Int32)), (0, va_rf v0)]) d_B_siltUp_1 (by decide) (by first | (simp [mj_s1, mj_s2, mj_rfc, mj_cti, mj_ctl]; done) | (simp [mj_s1, mj_s2, mj_rfc, mj_cti, mj_ctl]; decide)) (go_iconst (v := (0 : Int32)) d_B_siltUp_2 (by decide) (go_istore_n (lv1 := [(2, .int (0 : Int32)), (1, .int (0 : Int32)), (0, va_rf v0)]) d_B_siltUp_3 (by decide) rfl B)))) ?_
  refine rt_sub [2, 1, 0] (lv1 := [(0, va_rf v0), (1, .int (0 : Int32)), (2, .int (0 : Int32))]) rfl ?_
  exact p_B_siltUp_4 F F _ _ _ _ r hyp
/-! WideTurn.Hand.<init>(III)V -/
def f_H_init (v0 : Option Nat) (v1 : Int32) (v2 : Int32) (v3 : Int32) (h : MH) : Option MH :=
  Option.bind v0 fun t0 =>
  Option.bind (pfv h v0 [2, 3, 4, 7, 8] 0 (.int v1)) fun h2 =>
  Option.bind (pfv h2 v0 [2, 3, 4, 7, 8] 1 (.int v2)) fun h4 =>
  Option.bind (pfv h4 v0 [2, 3, 4, 7, 8] 2 (.int v3)) fun h6 =>
  some h6
set_option maxHeartbeats 4000000 in
set_option maxRecDepth 200000 in
theorem t_H_init (v0 : Option Nat) (v1 : Int32) (v2 : Int32) (v3 : Int32) (h : MH) (r : MH) (hyp : f_H_init v0 v1 v2 v3 h = some r) : Mt mi_H_init 2 [va_rf v0, .int v1, .int v2, .int v3] h none r := by
  refine Mt.rt (lv := [(0, va_rf v0), (1, .int v1), (2, .int v2), (3, .int v3)]) (by decide +kernel) (by simp [lv_args, mj_rfc, mj_cti, mj_ctl]) (by simp [mj_rfc, mj_cti, mj_ctl]) ?_
  unfold f_H_init at hyp
  obtain ⟨t0, hthis, hyp⟩ := Option.bind_eq_some_iff.mp hyp
  obtain ⟨h2, e3, hyp⟩ := Option.bind_eq_some_iff.mp hyp
  obtain ⟨h4, e5, hyp⟩ := Option.bind_eq_some_iff.mp hyp
  obtain ⟨h6, e7, hyp⟩ := Option.bind_eq_some_iff.mp hyp
  refine rt_st (pc1 := 19) (fun _ _ B => go_aload_n 0 d_H_init_0 rfl (go_objI (st := []) (mj_some hthis) (by decide) d_H_init_1 w465 w_objI w_objC (Nat.le_of_ble_eq_true rfl) (go_aload_n 0 d_H_init_4 rfl (go_iload_n 1 d_H_init_5 rfl (go_pfi d_H_init_6 fd_h_0 w466 (fun _ => ⟨rfl, rfl⟩) e3 (go_aload_n 0 d_H_init_9 rfl (go_iload_n 2 d_H_init_10 rfl (go_pfi d_H_init_11 fd_h_1 w467 (fun _ => ⟨rfl, rfl⟩) e5 (go_aload_n 0 d_H_init_14 rfl (go_iload_n 3 d_H_init_15 rfl (go_pfi d_H_init_16 fd_h_2 w468 (fun _ => ⟨rfl, rfl⟩) e7 B))))))))))) ?_
  exact rt_eq0 hyp (rt_void d_H_init_19 rfl)
/-! WideTurn.Hand.leave([II)V -/
def f_H_leave (v0 : Option Nat) (v1 : Int32) (h : MH) : Option MH :=
  if v0 = none then
    some h
  else
    Option.bind (alen h v0) fun x2 =>
    if (16 : Int32) < x2 then
      Option.bind (ald h v0 0 (0 : Int32)) fun x5 =>
      if x5 < 0 then
        some h
      else
        if (16 : Int32) ≤ x5 then
          some h
        else
          Option.bind (ast h v0 0 (x5 + (1 : Int32)) v1) fun h9 =>
          Option.bind (ast h9 v0 0 (0 : Int32) (x5 + (1 : Int32))) fun h11 =>
          some h11
    else
      some h
set_option maxHeartbeats 4000000 in
set_option maxRecDepth 200000 in
theorem t_H_leave (v0 : Option Nat) (v1 : Int32) (h : MH) (r : MH) (hyp : f_H_leave v0 v1 h = some r) : Mt mi_H_leave 1 [va_rf v0, .int v1] h none r := by
  refine Mt.rt (lv := [(0, va_rf v0), (1, .int v1)]) (by decide +kernel) (by simp [lv_args, mj_rfc, mj_cti, mj_ctl]) (by simp [mj_rfc, mj_cti, mj_ctl]) ?_
  unfold f_H_leave at hyp
  refine rt_st (pc1 := 1) (fun _ _ B => go_aload_n 0 d_H_leave_0 rfl B) ?_
  by_cases c1 : v0 = none
  · replace hyp := (if_pos c1).symm.trans hyp
    refine rt_st (pc1 := 11) (fun _ _ B => go_ifnull_t 11 d_H_leave_1 rfl c1 B) ?_
    exact rt_eq0 hyp (rt_void d_H_leave_11 rfl)
  · replace hyp := (if_neg c1).symm.trans hyp
    obtain ⟨x2, e3, hyp⟩ := Option.bind_eq_some_iff.mp hyp
    refine rt_st (pc1 := 8) (fun _ _ B => go_ifnull_f d_H_leave_1 rfl c1 (go_aload_n 0 d_H_leave_4 rfl (go_alen d_H_leave_5 e3 (go_bipush (v := (16 : Int32)) d_H_leave_6 (by decide) B)))) ?_
    by_cases c4 : (16 : Int32) < x2
    · replace hyp := (if_pos c4).symm.trans hyp
      obtain ⟨x5, e6, hyp⟩ := Option.bind_eq_some_iff.mp hyp
      refine rt_st (pc1 := 17) (fun _ _ B => go_icmp_gt_t 12 d_H_leave_8 rfl c4 (go_aload_n 0 d_H_leave_12 rfl (go_iconst (v := (0 : Int32)) d_H_leave_13 (by decide) (go_iald d_H_leave_14 e6 (go_istore_n (lv1 := [(2, .int x5), (0, va_rf v0), (1, .int v1)]) d_H_leave_15 (by decide) rfl (go_iload_n 0 d_H_leave_16 rfl B)))))) ?_
      by_cases c7 : x5 < 0
      · replace hyp := (if_pos c7).symm.trans hyp
        refine rt_st (pc1 := 38) (fun _ _ B => go_if_lt_t 38 d_H_leave_17 rfl c7 B) ?_
        exact rt_eq0 hyp (rt_void d_H_leave_38 rfl)
      · replace hyp := (if_neg c7).symm.trans hyp
        refine rt_st (pc1 := 23) (fun _ _ B => go_if_lt_f d_H_leave_17 rfl c7 (go_iload_n 0 d_H_leave_20 rfl (go_bipush (v := (16 : Int32)) d_H_leave_21 (by decide) B))) ?_
        by_cases c8 : (16 : Int32) ≤ x5
        · replace hyp := (if_pos c8).symm.trans hyp
          refine rt_st (pc1 := 38) (fun _ _ B => go_icmp_ge_t 38 d_H_leave_23 rfl c8 B) ?_
          exact rt_eq0 hyp (rt_void d_H_leave_38 rfl)
        · replace hyp := (if_neg c8).symm.trans hyp
          obtain ⟨h9, e10, hyp⟩ := Option.bind_eq_some_iff.mp hyp
          obtain ⟨h11, e12, hyp⟩ := Option.bind_eq_some_iff.mp hyp
          refine rt_st (pc1 := 38) (fun _ _ B => go_icmp_ge_f d_H_leave_23 rfl c8 (go_aload_n 1 d_H_leave_26 rfl (go_iload_n 0 d_H_leave_27 rfl (go_iconst (v := (1 : Int32)) d_H_leave_28 (by decide) (go_iadd d_H_leave_29 (go_iload_n 2 d_H_leave_30 rfl (go_iast d_H_leave_31 e10 (go_aload_n 1 d_H_leave_32 rfl (go_iconst (v := (0 : Int32)) d_H_leave_33 (by decide) (go_iload_n 0 d_H_leave_34 rfl (go_iconst (v := (1 : Int32)) d_H_leave_35 (by decide) (go_iadd d_H_leave_36 (go_iast d_H_leave_37 e12 B))))))))))))) ?_
          exact rt_eq0 hyp (rt_void d_H_leave_38 rfl)
    · replace hyp := (if_neg c4).symm.trans hyp
      refine rt_st (pc1 := 11) (fun _ _ B => go_icmp_gt_f d_H_leave_8 rfl c4 B) ?_
      exact rt_eq0 hyp (rt_void d_H_leave_11 rfl)
/-! WideTurn.Hand.size([II)I -/
def f_H_size (v0 : Option Nat) (v1 : Option Nat) (v2 : Int32) (h : MH) : Option (Int32 × MH) :=
  Option.bind (f_H_leave v1 (10 : Int32) h) fun h1 =>
  Option.bind (gfi h1 v0 [2, 3, 4, 7, 8] 1) fun x3 =>
  some (x3, h1)
set_option maxHeartbeats 4000000 in
set_option maxRecDepth 200000 in
theorem t_H_size (v0 : Option Nat) (v1 : Option Nat) (v2 : Int32) (h : MH) (r : (Int32 × MH)) (hyp : f_H_size v0 v1 v2 h = some r) : Mt mi_H_size 2 [va_rf v0, va_rf v1, .int v2] h (some (.int r.1)) r.2 := by
  refine Mt.rt (lv := [(0, va_rf v0), (1, va_rf v1), (2, .int v2)]) (by decide +kernel) (by simp [lv_args, mj_rfc, mj_cti, mj_ctl]) (by simp [mj_rfc, mj_cti, mj_ctl]) ?_
  unfold f_H_size at hyp
  obtain ⟨h1, e2, hyp⟩ := Option.bind_eq_some_iff.mp hyp
  obtain ⟨x3, e4, hyp⟩ := Option.bind_eq_some_iff.mp hyp
  refine rt_st (pc1 := 10) (fun _ _ B => go_aload_n 1 d_H_size_0 rfl (go_bipush (v := (10 : Int32)) d_H_size_1 (by decide) (go_callS0 (st := []) [va_rf v1, .int (10 : Int32)] (t_H_leave v1 (10 : Int32) h _ e2) mm_H_leave (by decide) d_H_size_3 w957 w920 rfl (Nat.le_of_ble_eq_true rfl) rfl (go_aload_n 0 d_H_size_6 rfl (go_gfi d_H_size_7 fd_h_1 w467 e4 B))))) ?_
  exact rt_eqW Value.int hyp (rt_int d_H_size_10 rfl)
/-! WideTurn.Hand.mark([II)I -/
def f_H_mark (v0 : Option Nat) (v1 : Option Nat) (v2 : Int32) (h : MH) : Option (Int32 × MH) :=
  Option.bind (f_H_leave v1 (20 : Int32) h) fun h1 =>
  Option.bind (gfi h1 v0 [2, 3, 4, 7, 8] 0) fun x3 =>
  some (x3, h1)
set_option maxHeartbeats 4000000 in
set_option maxRecDepth 200000 in
theorem t_H_mark (v0 : Option Nat) (v1 : Option Nat) (v2 : Int32) (h : MH) (r : (Int32 × MH)) (hyp : f_H_mark v0 v1 v2 h = some r) : Mt mi_H_mark 2 [va_rf v0, va_rf v1, .int v2] h (some (.int r.1)) r.2 := by
  refine Mt.rt (lv := [(0, va_rf v0), (1, va_rf v1), (2, .int v2)]) (by decide +kernel) (by simp [lv_args, mj_rfc, mj_cti, mj_ctl]) (by simp [mj_rfc, mj_cti, mj_ctl]) ?_
  unfold f_H_mark at hyp
  obtain ⟨h1, e2, hyp⟩ := Option.bind_eq_some_iff.mp hyp
  obtain ⟨x3, e4, hyp⟩ := Option.bind_eq_some_iff.mp hyp
  refine rt_st (pc1 := 10) (fun _ _ B => go_aload_n 1 d_H_mark_0 rfl (go_bipush (v := (20 : Int32)) d_H_mark_1 (by decide) (go_callS0 (st := []) [va_rf v1, .int (20 : Int32)] (t_H_leave v1 (20 : Int32) h _ e2) mm_H_leave (by decide) d_H_mark_3 w957 w920 rfl (Nat.le_of_ble_eq_true rfl) rfl (go_aload_n 0 d_H_mark_6 rfl (go_gfi d_H_mark_7 fd_h_0 w466 e4 B))))) ?_
  exact rt_eqW Value.int hyp (rt_int d_H_mark_10 rfl)
/-! WideTurn.Shover.<init>(II)V -/
def f_Sh_init (v0 : Option Nat) (v1 : Int32) (v2 : Int32) (h : MH) : Option MH :=
  Option.bind (f_H_init v0 v1 v2 (192 : Int32) h) fun h1 =>
  Option.bind v0 fun t0 =>
  some h1
set_option maxHeartbeats 4000000 in
set_option maxRecDepth 200000 in
theorem t_Sh_init (v0 : Option Nat) (v1 : Int32) (v2 : Int32) (h : MH) (r : MH) (hyp : f_Sh_init v0 v1 v2 h = some r) : Mt mi_Sh_init 3 [va_rf v0, .int v1, .int v2] h none r := by
  refine Mt.rt (lv := [(0, va_rf v0), (1, .int v1), (2, .int v2)]) (by decide +kernel) (by simp [lv_args, mj_rfc, mj_cti, mj_ctl]) (by simp [mj_rfc, mj_cti, mj_ctl]) ?_
  unfold f_Sh_init at hyp
  obtain ⟨h1, e2, hyp⟩ := Option.bind_eq_some_iff.mp hyp
  obtain ⟨t0, hthis, hyp⟩ := Option.bind_eq_some_iff.mp hyp
  refine rt_st (pc1 := 9) (fun _ _ B => go_aload_n 0 d_Sh_init_0 rfl (go_iload_n 1 d_Sh_init_1 rfl (go_iload_n 2 d_Sh_init_2 rfl (go_sipush (v := (192 : Int32)) d_Sh_init_3 (by decide) (go_callIo (mj_some hthis) (st := []) [.int v1, .int v2, .int (192 : Int32)] (t_H_init v0 v1 v2 (192 : Int32) h _ e2) mm_H_init rfl (by decide) d_Sh_init_6 w501 w463 rfl rfl (Nat.le_of_ble_eq_true rfl) rfl B))))) ?_
  exact rt_eq0 hyp (rt_void d_Sh_init_9 rfl)
/-! WideTurn.Lifter.<init>(II)V -/
def f_Lf_init (v0 : Option Nat) (v1 : Int32) (v2 : Int32) (h : MH) : Option MH :=
  Option.bind (f_Sh_init v0 v1 v2 h) fun h1 =>
  Option.bind v0 fun t0 =>
  some h1
set_option maxHeartbeats 4000000 in
set_option maxRecDepth 200000 in
theorem t_Lf_init (v0 : Option Nat) (v1 : Int32) (v2 : Int32) (h : MH) (r : MH) (hyp : f_Lf_init v0 v1 v2 h = some r) : Mt mi_Lf_init 4 [va_rf v0, .int v1, .int v2] h none r := by
  refine Mt.rt (lv := [(0, va_rf v0), (1, .int v1), (2, .int v2)]) (by decide +kernel) (by simp [lv_args, mj_rfc, mj_cti, mj_ctl]) (by simp [mj_rfc, mj_cti, mj_ctl]) ?_
  unfold f_Lf_init at hyp
  obtain ⟨h1, e2, hyp⟩ := Option.bind_eq_some_iff.mp hyp
  obtain ⟨t0, hthis, hyp⟩ := Option.bind_eq_some_iff.mp hyp
  refine rt_st (pc1 := 6) (fun _ _ B => go_aload_n 0 d_Lf_init_0 rfl (go_iload_n 1 d_Lf_init_1 rfl (go_iload_n 2 d_Lf_init_2 rfl (go_callIo (mj_some hthis) (st := []) [.int v1, .int v2] (t_Sh_init v0 v1 v2 h _ e2) mm_Sh_init rfl (by decide) d_Lf_init_3 w511 w499 rfl rfl (Nat.le_of_ble_eq_true rfl) rfl B)))) ?_
  exact rt_eq0 hyp (rt_void d_Lf_init_6 rfl)
/-! WideTurn.Lifter.sort()I -/
def f_Lf_sort (v0 : Option Nat) : Int32 :=
  (5 : Int32)
set_option maxHeartbeats 4000000 in
set_option maxRecDepth 200000 in
theorem t_Lf_sort (v0 : Option Nat) (h : MH) : Mt mi_Lf_sort 1 [va_rf v0] h (some (.int (f_Lf_sort v0))) h := by
  refine Mt.rt (lv := [(0, va_rf v0)]) (by decide +kernel) (by simp [lv_args, mj_rfc, mj_cti, mj_ctl]) (by simp [mj_rfc, mj_cti, mj_ctl]) ?_
  unfold f_Lf_sort
  refine rt_st (pc1 := 1) (fun _ _ B => go_iconst (v := (5 : Int32)) d_Lf_sort_0 (by decide) B) ?_
  exact rt_int d_Lf_sort_1 rfl
/-! WideTurn.Shover.size([II)I -/
def f_Sh_size (v0 : Option Nat) (v1 : Option Nat) (v2 : Int32) (h : MH) : Option (Int32 × MH) :=
  Option.bind (f_H_leave v1 (13 : Int32) h) fun h1 =>
  Option.bind (f_H_size v0 v1 v2 h1) fun x3 =>
  Option.bind (cls h1 v0) fun x5 =>
  Option.bind (mj_hand x5) fun _ =>
  some ((x3.1 - (100 : Int32)), x3.2)
set_option maxHeartbeats 4000000 in
set_option maxRecDepth 200000 in
theorem t_Sh_size (v0 : Option Nat) (v1 : Option Nat) (v2 : Int32) (h : MH) (r : (Int32 × MH)) (hyp : f_Sh_size v0 v1 v2 h = some r) : Mt mi_Sh_size 3 [va_rf v0, va_rf v1, .int v2] h (some (.int r.1)) r.2 := by
  refine Mt.rt (lv := [(0, va_rf v0), (1, va_rf v1), (2, .int v2)]) (by decide +kernel) (by simp [lv_args, mj_rfc, mj_cti, mj_ctl]) (by simp [mj_rfc, mj_cti, mj_ctl]) ?_
  unfold f_Sh_size at hyp
  obtain ⟨h1, e2, hyp⟩ := Option.bind_eq_some_iff.mp hyp
  obtain ⟨x3, e4, hyp⟩ := Option.bind_eq_some_iff.mp hyp
  obtain ⟨x5, e6, hyp⟩ := Option.bind_eq_some_iff.mp hyp
  obtain ⟨_, e7, hyp⟩ := Option.bind_eq_some_iff.mp hyp
  refine rt_st (pc1 := 15) (fun _ _ B => go_aload_n 1 d_Sh_size_0 rfl (go_bipush (v := (13 : Int32)) d_Sh_size_1 (by decide) (go_callSUp0 (st := []) [va_rf v1, .int (13 : Int32)] (t_H_leave v1 (13 : Int32) h _ e2) mm_H_leave (by decide) d_Sh_size_3 w925 w926 w_leS (by decide) rfl (Nat.le_of_ble_eq_true rfl) rfl (go_aload_n 0 d_Sh_size_6 rfl (go_aload_n 1 d_Sh_size_7 rfl (go_iload_n 2 d_Sh_size_8 rfl (go_callSUh1 (st := []) [va_rf v1, .int v2] (t_H_size v0 v1 v2 h1 _ e4) mm_H_size (by decide) d_Sh_size_9 e6 (mj_hand_spec e7) w927 w914 w505 w913 (by decide) rfl (Nat.le_of_ble_eq_true rfl) rfl (go_bipush (v := (100 : Int32)) d_Sh_size_12 (by decide) (go_isub d_Sh_size_14 B))))))))) ?_
  exact rt_eqW Value.int hyp (rt_int d_Sh_size_15 rfl)
/-! WideTurn.Lifter.size([II)I -/
def f_Lf_size (v0 : Option Nat) (v1 : Option Nat) (v2 : Int32) (h : MH) : Option (Int32 × MH) :=
  Option.bind (f_H_leave v1 (14 : Int32) h) fun h1 =>
  Option.bind (f_Sh_size v0 v1 v2 h1) fun x3 =>
  Option.bind (cls h1 v0) fun x5 =>
  Option.bind (mj_hand x5) fun _ =>
  some (((2 : Int32) * x3.1), x3.2)
set_option maxHeartbeats 4000000 in
set_option maxRecDepth 200000 in
theorem t_Lf_size (v0 : Option Nat) (v1 : Option Nat) (v2 : Int32) (h : MH) (r : (Int32 × MH)) (hyp : f_Lf_size v0 v1 v2 h = some r) : Mt mi_Lf_size 4 [va_rf v0, va_rf v1, .int v2] h (some (.int r.1)) r.2 := by
  refine Mt.rt (lv := [(0, va_rf v0), (1, va_rf v1), (2, .int v2)]) (by decide +kernel) (by simp [lv_args, mj_rfc, mj_cti, mj_ctl]) (by simp [mj_rfc, mj_cti, mj_ctl]) ?_
  unfold f_Lf_size at hyp
  obtain ⟨h1, e2, hyp⟩ := Option.bind_eq_some_iff.mp hyp
  obtain ⟨x3, e4, hyp⟩ := Option.bind_eq_some_iff.mp hyp
  obtain ⟨x5, e6, hyp⟩ := Option.bind_eq_some_iff.mp hyp
  obtain ⟨_, e7, hyp⟩ := Option.bind_eq_some_iff.mp hyp
  refine rt_st (pc1 := 14) (fun _ _ B => go_aload_n 1 d_Lf_size_0 rfl (go_bipush (v := (14 : Int32)) d_Lf_size_1 (by decide) (go_callSUp0 (st := []) [va_rf v1, .int (14 : Int32)] (t_H_leave v1 (14 : Int32) h _ e2) mm_H_leave (by decide) d_Lf_size_3 w918 w919 w_leS (by decide) rfl (Nat.le_of_ble_eq_true rfl) rfl (go_iconst (v := (2 : Int32)) d_Lf_size_6 (by decide) (go_aload_n 0 d_Lf_size_7 rfl (go_aload_n 1 d_Lf_size_8 rfl (go_iload_n 2 d_Lf_size_9 rfl (go_callSUh1 (st := [.int (2 : Int32)]) [va_rf v1, .int v2] (t_Sh_size v0 v1 v2 h1 _ e4) mm_Sh_size (by decide) d_Lf_size_10 e6 (mj_hand_spec e7) w922 w1377 w515 w923 (by decide) rfl (Nat.le_of_ble_eq_true rfl) rfl (go_imul d_Lf_size_13 B))))))))) ?_
  exact rt_eqW Value.int hyp (rt_int d_Lf_size_14 rfl)
/-! WideTurn.Swinger.<init>(III)V -/
def f_Sw_init (v0 : Option Nat) (v1 : Int32) (v2 : Int32) (v3 : Int32) (h : MH) : Option MH :=
  Option.bind (f_H_init v0 v1 v2 v3 h) fun h1 =>
  Option.bind v0 fun t0 =>
  some h1
set_option maxHeartbeats 4000000 in
set_option maxRecDepth 200000 in
theorem t_Sw_init (v0 : Option Nat) (v1 : Int32) (v2 : Int32) (v3 : Int32) (h : MH) (r : MH) (hyp : f_Sw_init v0 v1 v2 v3 h = some r) : Mt mi_Sw_init 3 [va_rf v0, .int v1, .int v2, .int v3] h none r := by
  refine Mt.rt (lv := [(0, va_rf v0), (1, .int v1), (2, .int v2), (3, .int v3)]) (by decide +kernel) (by simp [lv_args, mj_rfc, mj_cti, mj_ctl]) (by simp [mj_rfc, mj_cti, mj_ctl]) ?_
  unfold f_Sw_init at hyp
  obtain ⟨h1, e2, hyp⟩ := Option.bind_eq_some_iff.mp hyp
  obtain ⟨t0, hthis, hyp⟩ := Option.bind_eq_some_iff.mp hyp
  refine rt_st (pc1 := 7) (fun _ _ B => go_aload_n 0 d_Sw_init_0 rfl (go_iload_n 1 d_Sw_init_1 rfl (go_iload_n 2 d_Sw_init_2 rfl (go_iload_n 3 d_Sw_init_3 rfl (go_callIo (mj_some hthis) (st := []) [.int v1, .int v2, .int v3] (t_H_init v0 v1 v2 v3 h _ e2) mm_H_init rfl (by decide) d_Sw_init_4 w462 w463 rfl rfl (Nat.le_of_ble_eq_true rfl) rfl B))))) ?_
  exact rt_eq0 hyp (rt_void d_Sw_init_7 rfl)
/-! WideTurn.Poler.<init>(II)V -/
def f_Po_init (v0 : Option Nat) (v1 : Int32) (v2 : Int32) (h : MH) : Option MH :=
  Option.bind (f_Sw_init v0 v1 v2 (15 : Int32) h) fun h1 =>
  Option.bind v0 fun t0 =>
  some h1
set_option maxHeartbeats 4000000 in
set_option maxRecDepth 200000 in
theorem t_Po_init (v0 : Option Nat) (v1 : Int32) (v2 : Int32) (h : MH) (r : MH) (hyp : f_Po_init v0 v1 v2 h = some r) : Mt mi_Po_init 4 [va_rf v0, .int v1, .int v2] h none r := by
  refine Mt.rt (lv := [(0, va_rf v0), (1, .int v1), (2, .int v2)]) (by decide +kernel) (by simp [lv_args, mj_rfc, mj_cti, mj_ctl]) (by simp [mj_rfc, mj_cti, mj_ctl]) ?_
  unfold f_Po_init at hyp
  obtain ⟨h1, e2, hyp⟩ := Option.bind_eq_some_iff.mp hyp
  obtain ⟨t0, hthis, hyp⟩ := Option.bind_eq_some_iff.mp hyp
  refine rt_st (pc1 := 8) (fun _ _ B => go_aload_n 0 d_Po_init_0 rfl (go_iload_n 1 d_Po_init_1 rfl (go_iload_n 2 d_Po_init_2 rfl (go_bipush (v := (15 : Int32)) d_Po_init_3 (by decide) (go_callIo (mj_some hthis) (st := []) [.int v1, .int v2, .int (15 : Int32)] (t_Sw_init v0 v1 v2 (15 : Int32) h _ e2) mm_Sw_init rfl (by decide) d_Po_init_5 w481 w460 rfl rfl (Nat.le_of_ble_eq_true rfl) rfl B))))) ?_
  exact rt_eq0 hyp (rt_void d_Po_init_8 rfl)
/-! WideTurn.Poler.sort()I -/
def f_Po_sort (v0 : Option Nat) : Int32 :=
  (2 : Int32)
set_option maxHeartbeats 4000000 in
set_option maxRecDepth 200000 in
theorem t_Po_sort (v0 : Option Nat) (h : MH) : Mt mi_Po_sort 1 [va_rf v0] h (some (.int (f_Po_sort v0))) h := by
  refine Mt.rt (lv := [(0, va_rf v0)]) (by decide +kernel) (by simp [lv_args, mj_rfc, mj_cti, mj_ctl]) (by simp [mj_rfc, mj_cti, mj_ctl]) ?_
  unfold f_Po_sort
  refine rt_st (pc1 := 1) (fun _ _ B => go_iconst (v := (2 : Int32)) d_Po_sort_0 (by decide) B) ?_
  exact rt_int d_Po_sort_1 rfl
/-! WideTurn.Swinger.mark([II)I -/
def f_Sw_mark (v0 : Option Nat) (v1 : Option Nat) (v2 : Int32) (h : MH) : Option (Int32 × MH) :=
  Option.bind (f_H_leave v1 (21 : Int32) h) fun h1 =>
  Option.bind (f_H_mark v0 v1 v2 h1) fun x3 =>
  Option.bind (cls h1 v0) fun x5 =>
  Option.bind (mj_hand x5) fun _ =>
  some ((x3.1 + v2), x3.2)
set_option maxHeartbeats 4000000 in
set_option maxRecDepth 200000 in
theorem t_Sw_mark (v0 : Option Nat) (v1 : Option Nat) (v2 : Int32) (h : MH) (r : (Int32 × MH)) (hyp : f_Sw_mark v0 v1 v2 h = some r) : Mt mi_Sw_mark 3 [va_rf v0, va_rf v1, .int v2] h (some (.int r.1)) r.2 := by
  refine Mt.rt (lv := [(0, va_rf v0), (1, va_rf v1), (2, .int v2)]) (by decide +kernel) (by simp [lv_args, mj_rfc, mj_cti, mj_ctl]) (by simp [mj_rfc, mj_cti, mj_ctl]) ?_
  unfold f_Sw_mark at hyp
  obtain ⟨h1, e2, hyp⟩ := Option.bind_eq_some_iff.mp hyp
  obtain ⟨x3, e4, hyp⟩ := Option.bind_eq_some_iff.mp hyp
  obtain ⟨x5, e6, hyp⟩ := Option.bind_eq_some_iff.mp hyp
  obtain ⟨_, e7, hyp⟩ := Option.bind_eq_some_iff.mp hyp
  refine rt_st (pc1 := 14) (fun _ _ B => go_aload_n 1 d_Sw_mark_0 rfl (go_bipush (v := (21 : Int32)) d_Sw_mark_1 (by decide) (go_callSUp0 (st := []) [va_rf v1, .int (21 : Int32)] (t_H_leave v1 (21 : Int32) h _ e2) mm_H_leave (by decide) d_Sw_mark_3 w936 w937 w_leS (by decide) rfl (Nat.le_of_ble_eq_true rfl) rfl (go_aload_n 0 d_Sw_mark_6 rfl (go_aload_n 1 d_Sw_mark_7 rfl (go_iload_n 2 d_Sw_mark_8 rfl (go_callSUh1 (st := []) [va_rf v1, .int v2] (t_H_mark v0 v1 v2 h1 _ e4) mm_H_mark (by decide) d_Sw_mark_9 e6 (mj_hand_spec e7) w954 w1379 w475 w955 (by decide) rfl (Nat.le_of_ble_eq_true rfl) rfl (go_iload_n 2 d_Sw_mark_12 rfl (go_iadd d_Sw_mark_13 B))))))))) ?_
  exact rt_eqW Value.int hyp (rt_int d_Sw_mark_14 rfl)
/-! WideTurn.Poler.mark([II)I -/
def f_Po_mark (v0 : Option Nat) (v1 : Option Nat) (v2 : Int32) (h : MH) : Option (Int32 × MH) :=
  Option.bind (f_H_leave v1 (24 : Int32) h) fun h1 =>
  Option.bind (f_Sw_mark v0 v1 v2 h1) fun x3 =>
  Option.bind (cls h1 v0) fun x5 =>
  Option.bind (mj_hand x5) fun _ =>
  some (((2 : Int32) * x3.1), x3.2)
set_option maxHeartbeats 4000000 in
set_option maxRecDepth 200000 in
theorem t_Po_mark (v0 : Option Nat) (v1 : Option Nat) (v2 : Int32) (h : MH) (r : (Int32 × MH)) (hyp : f_Po_mark v0 v1 v2 h = some r) : Mt mi_Po_mark 4 [va_rf v0, va_rf v1, .int v2] h (some (.int r.1)) r.2 := by
  refine Mt.rt (lv := [(0, va_rf v0), (1, va_rf v1), (2, .int v2)]) (by decide +kernel) (by simp [lv_args, mj_rfc, mj_cti, mj_ctl]) (by simp [mj_rfc, mj_cti, mj_ctl]) ?_
  unfold f_Po_mark at hyp
  obtain ⟨h1, e2, hyp⟩ := Option.bind_eq_some_iff.mp hyp
  obtain ⟨x3, e4, hyp⟩ := Option.bind_eq_some_iff.mp hyp
  obtain ⟨x5, e6, hyp⟩ := Option.bind_eq_some_iff.mp hyp
  obtain ⟨_, e7, hyp⟩ := Option.bind_eq_some_iff.mp hyp
  refine rt_st (pc1 := 14) (fun _ _ B => go_aload_n 1 d_Po_mark_0 rfl (go_bipush (v := (24 : Int32)) d_Po_mark_1 (by decide) (go_callSUp0 (st := []) [va_rf v1, .int (24 : Int32)] (t_H_leave v1 (24 : Int32) h _ e2) mm_H_leave (by decide) d_Po_mark_3 w931 w932 w_leS (by decide) rfl (Nat.le_of_ble_eq_true rfl) rfl (go_iconst (v := (2 : Int32)) d_Po_mark_6 (by decide) (go_aload_n 0 d_Po_mark_7 rfl (go_aload_n 1 d_Po_mark_8 rfl (go_iload_n 2 d_Po_mark_9 rfl (go_callSUh1 (st := [.int (2 : Int32)]) [va_rf v1, .int v2] (t_Sw_mark v0 v1 v2 h1 _ e4) mm_Sw_mark (by decide) d_Po_mark_10 e6 (mj_hand_spec e7) w946 w942 w485 w940 (by decide) rfl (Nat.le_of_ble_eq_true rfl) rfl (go_imul d_Po_mark_13 B))))))))) ?_
  exact rt_eqW Value.int hyp (rt_int d_Po_mark_14 rfl)
/-! WideTurn.Roper.mark([II)I -/
def f_Ro_mark (v0 : Option Nat) (v1 : Option Nat) (v2 : Int32) (h : MH) : Option (Int32 × MH) :=
  Option.bind (f_H_leave v1 (22 : Int32) h) fun h1 =>
  Option.bind (f_Sw_mark v0 v1 v2 h1) fun x3 =>
  Option.bind (cls h1 v0) fun x5 =>
  Option.bind (mj_hand x5) fun _ =>
  some ((x3.1 - (1000 : Int32)), x3.2)
set_option maxHeartbeats 4000000 in
set_option maxRecDepth 200000 in
theorem t_Ro_mark (v0 : Option Nat) (v1 : Option Nat) (v2 : Int32) (h : MH) (r : (Int32 × MH)) (hyp : f_Ro_mark v0 v1 v2 h = some r) : Mt mi_Ro_mark 4 [va_rf v0, va_rf v1, .int v2] h (some (.int r.1)) r.2 := by
  refine Mt.rt (lv := [(0, va_rf v0), (1, va_rf v1), (2, .int v2)]) (by decide +kernel) (by simp [lv_args, mj_rfc, mj_cti, mj_ctl]) (by simp [mj_rfc, mj_cti, mj_ctl]) ?_
  unfold f_Ro_mark at hyp
  obtain ⟨h1, e2, hyp⟩ := Option.bind_eq_some_iff.mp hyp
  obtain ⟨x3, e4, hyp⟩ := Option.bind_eq_some_iff.mp hyp
  obtain ⟨x5, e6, hyp⟩ := Option.bind_eq_some_iff.mp hyp
  obtain ⟨_, e7, hyp⟩ := Option.bind_eq_some_iff.mp hyp
  refine rt_st (pc1 := 16) (fun _ _ B => go_aload_n 1 d_Ro_mark_0 rfl (go_bipush (v := (22 : Int32)) d_Ro_mark_1 (by decide) (go_callSUp0 (st := []) [va_rf v1, .int (22 : Int32)] (t_H_leave v1 (22 : Int32) h _ e2) mm_H_leave (by decide) d_Ro_mark_3 w950 w951 w_leS (by decide) rfl (Nat.le_of_ble_eq_true rfl) rfl (go_aload_n 0 d_Ro_mark_6 rfl (go_aload_n 1 d_Ro_mark_7 rfl (go_iload_n 2 d_Ro_mark_8 rfl (go_callSUh1 (st := []) [va_rf v1, .int v2] (t_Sw_mark v0 v1 v2 h1 _ e4) mm_Sw_mark (by decide) d_Ro_mark_9 e6 (mj_hand_spec e7) w952 w942 w495 w940 (by decide) rfl (Nat.le_of_ble_eq_true rfl) rfl (go_sipush (v := (1000 : Int32)) d_Ro_mark_12 (by decide) (go_isub d_Ro_mark_15 B))))))))) ?_
  exact rt_eqW Value.int hyp (rt_int d_Ro_mark_16 rfl)
/-! WideTurn.Swinger.size([II)I -/
def v_Sw_mark (o : Option Nat) (a0 : Option Nat) (a1 : Int32) (h : MH) : Option (Int32 × MH) :=
  if cls h o = some 3 then f_Po_mark o a0 a1 h else
  if cls h o = some 4 then f_Ro_mark o a0 a1 h else
  if cls h o = some 8 then f_Sw_mark o a0 a1 h else
  none
def f_Sw_size (v0 : Option Nat) (v1 : Option Nat) (v2 : Int32) (h : MH) : Option (Int32 × MH) :=
  Option.bind (f_H_leave v1 (11 : Int32) h) fun h1 =>
  Option.bind (f_H_size v0 v1 v2 h1) fun x3 =>
  Option.bind (cls h1 v0) fun x5 =>
  Option.bind (mj_hand x5) fun _ =>
  Option.bind (v_Sw_mark v0 v1 v2 x3.2) fun x8 =>
  some ((x3.1 + x8.1), x8.2)
set_option maxHeartbeats 4000000 in
set_option maxRecDepth 200000 in
theorem vs_Sw_size_17 {h0 : MH} (h : MH) {o : Option Nat} {a0 : Option Nat} {a1 : Int32} {pc2 : Nat} {lv lv2 : List (Nat × Value)} {st st2 : List Value} {h2 : MH} {x : Int32 × MH} (e : v_Sw_mark o a0 a1 h = some x) (hst : st.length ≤ 4) (B : Go mi_Sw_size 5 h0 (17 + 3) lv (.int x.1 :: st) x.2 pc2 lv2 st2 h2) : Go mi_Sw_size 5 h0 17 lv (.int a1 :: va_rf a0 :: va_rf o :: st) h pc2 lv2 st2 h2 := by
  unfold v_Sw_mark at e
  by_cases c3 : cls h o = some 3
  · replace e := (if_pos c3).symm.trans e
    exact go_callU1 (q := q_3) [va_rf a0, .int a1] (t_Po_mark o a0 a1 h _ e) mm_Po_mark (by decide) d_Sw_size_17 c3 rfl w939 w942 (Or.inl ⟨_, _, _, w940, w953⟩) (by decide +kernel) w943 w944 rfl hst rfl B
  replace e := (if_neg c3).symm.trans e
  by_cases c4 : cls h o = some 4
  · replace e := (if_pos c4).symm.trans e
    exact go_callU1 (q := q_4) [va_rf a0, .int a1] (t_Ro_mark o a0 a1 h _ e) mm_Ro_mark (by decide) d_Sw_size_17 c4 rfl w939 w942 (Or.inl ⟨_, _, _, w940, w953⟩) (by decide +kernel) w947 w948 rfl hst rfl B
  replace e := (if_neg c4).symm.trans e
  by_cases c8 : cls h o = some 8
  · replace e := (if_pos c8).symm.trans e
    exact go_callU1 (q := q_8) [va_rf a0, .int a1] (t_Sw_mark o a0 a1 h _ e) mm_Sw_mark (by decide) d_Sw_size_17 c8 rfl w939 w942 (Or.inl ⟨_, _, _, w940, w953⟩) (by decide +kernel) w941 w940 rfl hst rfl B
  replace e := (if_neg c8).symm.trans e
  cases e
set_option maxHeartbeats 4000000 in
set_option maxRecDepth 200000 in
theorem t_Sw_size (v0 : Option Nat) (v1 : Option Nat) (v2 : Int32) (h : MH) (r : (Int32 × MH)) (hyp : f_Sw_size v0 v1 v2 h = some r) : Mt mi_Sw_size 5 [va_rf v0, va_rf v1, .int v2] h (some (.int r.1)) r.2 := by
  refine Mt.rt (lv := [(0, va_rf v0), (1, va_rf v1), (2, .int v2)]) (by decide +kernel) (by simp [lv_args, mj_rfc, mj_cti, mj_ctl]) (by simp [mj_rfc, mj_cti, mj_ctl]) ?_
  unfold f_Sw_size at hyp
  obtain ⟨h1, e2, hyp⟩ := Option.bind_eq_some_iff.mp hyp
  obtain ⟨x3, e4, hyp⟩ := Option.bind_eq_some_iff.mp hyp
  obtain ⟨x5, e6, hyp⟩ := Option.bind_eq_some_iff.mp hyp
  obtain ⟨_, e7, hyp⟩ := Option.bind_eq_some_iff.mp hyp
  obtain ⟨x8, e9, hyp⟩ := Option.bind_eq_some_iff.mp hyp
  refine rt_st (pc1 := 21) (fun _ _ B => go_aload_n 1 d_Sw_size_0 rfl (go_bipush (v := (11 : Int32)) d_Sw_size_1 (by decide) (go_callSUp0 (st := []) [va_rf v1, .int (11 : Int32)] (t_H_leave v1 (11 : Int32) h _ e2) mm_H_leave (by decide) d_Sw_size_3 w936 w937 w_leS (by decide) rfl (Nat.le_of_ble_eq_true rfl) rfl (go_aload_n 0 d_Sw_size_6 rfl (go_aload_n 1 d_Sw_size_7 rfl (go_iload_n 2 d_Sw_size_8 rfl (go_callSUh1 (st := []) [va_rf v1, .int v2] (t_H_size v0 v1 v2 h1 _ e4) mm_H_size (by decide) d_Sw_size_9 e6 (mj_hand_spec e7) w938 w914 w475 w913 (by decide) rfl (Nat.le_of_ble_eq_true rfl) rfl (go_istore_n (lv1 := [(3, .int x3.1), (0, va_rf v0), (1, va_rf v1), (2, .int v2)]) d_Sw_size_12 (by decide) rfl (go_iload_n 0 d_Sw_size_13 rfl (go_aload_n 1 d_Sw_size_14 rfl (go_aload_n 2 d_Sw_size_15 rfl (go_iload_n 3 d_Sw_size_16 rfl (vs_Sw_size_17 x3.2 (st := [.int x3.1]) e9 (Nat.le_of_ble_eq_true rfl) (go_iadd d_Sw_size_20 B)))))))))))))) ?_
  exact rt_eqW Value.int hyp (rt_int d_Sw_size_21 rfl)
/-! WideTurn.Poler.size([II)I -/
def f_Po_size (v0 : Option Nat) (v1 : Option Nat) (v2 : Int32) (h : MH) : Option (Int32 × MH) :=
  Option.bind (f_H_leave v1 (12 : Int32) h) fun h1 =>
  Option.bind (f_Sw_size v0 v1 v2 h1) fun x3 =>
  Option.bind (cls h1 v0) fun x5 =>
  Option.bind (mj_hand x5) fun _ =>
  some ((-x3.1), x3.2)
set_option maxHeartbeats 4000000 in
set_option maxRecDepth 200000 in
theorem t_Po_size (v0 : Option Nat) (v1 : Option Nat) (v2 : Int32) (h : MH) (r : (Int32 × MH)) (hyp : f_Po_size v0 v1 v2 h = some r) : Mt mi_Po_size 6 [va_rf v0, va_rf v1, .int v2] h (some (.int r.1)) r.2 := by
  refine Mt.rt (lv := [(0, va_rf v0), (1, va_rf v1), (2, .int v2)]) (by decide +kernel) (by simp [lv_args, mj_rfc, mj_cti, mj_ctl]) (by simp [mj_rfc, mj_cti, mj_ctl]) ?_
  unfold f_Po_size at hyp
  obtain ⟨h1, e2, hyp⟩ := Option.bind_eq_some_iff.mp hyp
  obtain ⟨x3, e4, hyp⟩ := Option.bind_eq_some_iff.mp hyp
  obtain ⟨x5, e6, hyp⟩ := Option.bind_eq_some_iff.mp hyp
  obtain ⟨_, e7, hyp⟩ := Option.bind_eq_some_iff.mp hyp
  refine rt_st (pc1 := 13) (fun _ _ B => go_aload_n 1 d_Po_size_0 rfl (go_bipush (v := (12 : Int32)) d_Po_size_1 (by decide) (go_callSUp0 (st := []) [va_rf v1, .int (12 : Int32)] (t_H_leave v1 (12 : Int32) h _ e2) mm_H_leave (by decide) d_Po_size_3 w931 w932 w_leS (by decide) rfl (Nat.le_of_ble_eq_true rfl) rfl (go_aload_n 0 d_Po_size_6 rfl (go_aload_n 1 d_Po_size_7 rfl (go_iload_n 2 d_Po_size_8 rfl (go_callSUh1 (st := []) [va_rf v1, .int v2] (t_Sw_size v0 v1 v2 h1 _ e4) mm_Sw_size (by decide) d_Po_size_9 e6 (mj_hand_spec e7) w933 w1378 w485 w934 (by decide) rfl (Nat.le_of_ble_eq_true rfl) rfl (go_ineg d_Po_size_12 B)))))))) ?_
  exact rt_eqW Value.int hyp (rt_int d_Po_size_13 rfl)
/-! WideTurn.Roper.<init>(II)V -/
def f_Ro_init (v0 : Option Nat) (v1 : Int32) (v2 : Int32) (h : MH) : Option MH :=
  Option.bind (f_Sw_init v0 v1 v2 (51 : Int32) h) fun h1 =>
  Option.bind v0 fun t0 =>
  some h1
set_option maxHeartbeats 4000000 in
set_option maxRecDepth 200000 in
theorem t_Ro_init (v0 : Option Nat) (v1 : Int32) (v2 : Int32) (h : MH) (r : MH) (hyp : f_Ro_init v0 v1 v2 h = some r) : Mt mi_Ro_init 4 [va_rf v0, .int v1, .int v2] h none r := by
  refine Mt.rt (lv := [(0, va_rf v0), (1, .int v1), (2, .int v2)]) (by decide +kernel) (by simp [lv_args, mj_rfc, mj_cti, mj_ctl]) (by simp [mj_rfc, mj_cti, mj_ctl]) ?_
  unfold f_Ro_init at hyp
  obtain ⟨h1, e2, hyp⟩ := Option.bind_eq_some_iff.mp hyp
  obtain ⟨t0, hthis, hyp⟩ := Option.bind_eq_some_iff.mp hyp
  refine rt_st (pc1 := 8) (fun _ _ B => go_aload_n 0 d_Ro_init_0 rfl (go_iload_n 1 d_Ro_init_1 rfl (go_iload_n 2 d_Ro_init_2 rfl (go_bipush (v := (51 : Int32)) d_Ro_init_3 (by decide) (go_callIo (mj_some hthis) (st := []) [.int v1, .int v2, .int (51 : Int32)] (t_Sw_init v0 v1 v2 (51 : Int32) h _ e2) mm_Sw_init rfl (by decide) d_Ro_init_5 w491 w460 rfl rfl (Nat.le_of_ble_eq_true rfl) rfl B))))) ?_
  exact rt_eq0 hyp (rt_void d_Ro_init_8 rfl)
/-! WideTurn.Roper.sort()I -/
def f_Ro_sort (v0 : Option Nat) : Int32 :=
  (3 : Int32)
set_option maxHeartbeats 4000000 in
set_option maxRecDepth 200000 in
theorem t_Ro_sort (v0 : Option Nat) (h : MH) : Mt mi_Ro_sort 1 [va_rf v0] h (some (.int (f_Ro_sort v0))) h := by
  refine Mt.rt (lv := [(0, va_rf v0)]) (by decide +kernel) (by simp [lv_args, mj_rfc, mj_cti, mj_ctl]) (by simp [mj_rfc, mj_cti, mj_ctl]) ?_
  unfold f_Ro_sort
  refine rt_st (pc1 := 1) (fun _ _ B => go_iconst (v := (3 : Int32)) d_Ro_sort_0 (by decide) B) ?_
  exact rt_int d_Ro_sort_1 rfl
/-! WideTurn.Rows.<init>()V -/
def f_Rw_init (F : Nat) (v0 : Option Nat) (h : MH) : Option MH :=
  Option.bind v0 fun t0 =>
  Option.bind (newA h 0 320) fun h2 =>
  Option.bind (pfv h2 v0 [5] 0 (va_rf (some h.2.1))) fun h4 =>
  Option.bind (newA h4 0 8) fun h6 =>
  Option.bind (pfv h6 v0 [5] 1 (va_rf (some h4.2.1))) fun h8 =>
  Option.bind (newA h8 0 8) fun h10 =>
  Option.bind (pfv h10 v0 [5] 2 (va_rf (some h8.2.1))) fun h12 =>
  Option.bind (gfr h12 v0 [5] 1) fun x14 =>
  Option.bind (f_J_fill F x14 (-1 : Int32) h12) fun h16 =>
  some h16
set_option maxHeartbeats 4000000 in
set_option maxRecDepth 200000 in
theorem t_Rw_init (F : Nat) (v0 : Option Nat) (h : MH) (r : MH) (hyp : f_Rw_init F v0 h = some r) : Mt mi_Rw_init 2 [va_rf v0] h none r := by
  refine Mt.rt (lv := [(0, va_rf v0)]) (by decide +kernel) (by simp [lv_args, mj_rfc, mj_cti, mj_ctl]) (by simp [mj_rfc, mj_cti, mj_ctl]) ?_
  unfold f_Rw_init at hyp
  obtain ⟨t0, hthis, hyp⟩ := Option.bind_eq_some_iff.mp hyp
  obtain ⟨h2, e3, hyp⟩ := Option.bind_eq_some_iff.mp hyp
  obtain ⟨h4, e5, hyp⟩ := Option.bind_eq_some_iff.mp hyp
  obtain ⟨h6, e7, hyp⟩ := Option.bind_eq_some_iff.mp hyp
  obtain ⟨h8, e9, hyp⟩ := Option.bind_eq_some_iff.mp hyp
  obtain ⟨h10, e11, hyp⟩ := Option.bind_eq_some_iff.mp hyp
  obtain ⟨h12, e13, hyp⟩ := Option.bind_eq_some_iff.mp hyp
  obtain ⟨x14, e15, hyp⟩ := Option.bind_eq_some_iff.mp hyp
  obtain ⟨h16, e17, hyp⟩ := Option.bind_eq_some_iff.mp hyp
  refine rt_st (pc1 := 37) (fun _ _ B => go_aload_n 0 d_Rw_init_0 rfl (go_objI (st := []) (mj_some hthis) (by decide) d_Rw_init_1 w83 w_objI w_objC (Nat.le_of_ble_eq_true rfl) (go_aload_n 0 d_Rw_init_4 rfl (go_sipush (v := (320 : Int32)) d_Rw_init_5 (by decide) (go_newA (by decide) rfl d_Rw_init_8 w_arr0 (by decide) (by decide) (by decide) e3 (go_pfr (ty := (.array .int)) d_Rw_init_10 fd_5_0 w87 (fun _ => ⟨rfl, rfl⟩) (by decide +kernel) rfl e5 (go_aload_n 0 d_Rw_init_13 rfl (go_bipush (v := (8 : Int32)) d_Rw_init_14 (by decide) (go_newA (by decide) rfl d_Rw_init_16 w_arr0 (by decide) (by decide) (by decide) e7 (go_pfr (ty := (.array .int)) d_Rw_init_18 fd_5_1 w88 (fun _ => ⟨rfl, rfl⟩) (by decide +kernel) rfl e9 (go_aload_n 0 d_Rw_init_21 rfl (go_bipush (v := (8 : Int32)) d_Rw_init_22 (by decide) (go_newA (by decide) rfl d_Rw_init_24 w_arr0 (by decide) (by decide) (by decide) e11 (go_pfr (ty := (.array .int)) d_Rw_init_26 fd_5_2 w89 (fun _ => ⟨rfl, rfl⟩) (by decide +kernel) rfl e13 (go_aload_n 0 d_Rw_init_29 rfl (go_gfr d_Rw_init_30 fd_5_1 w88 e15 (go_iconst (v := (-1 : Int32)) d_Rw_init_33 (by decide) (go_callS0 (st := []) [va_rf x14, .int (-1 : Int32)] (t_J_fill F x14 (-1 : Int32) h12 _ e17) mm_J_fill (by decide) d_Rw_init_34 w84 w85 rfl (Nat.le_of_ble_eq_true rfl) rfl B)))))))))))))))))) ?_
  exact rt_eq0 hyp (rt_void d_Rw_init_37 rfl)
/-! WideTurn.isRow(I)Z -/
def f_C_isRow (v0 : Int32) : Int32 :=
  (f_C_within v0 (8 : Int32))
set_option maxHeartbeats 4000000 in
set_option maxRecDepth 200000 in
theorem t_C_isRow (v0 : Int32) (h : MH) : Mt mi_C_isRow 2 [.int v0] h (some (.int (f_C_isRow v0))) h := by
  refine Mt.rt (lv := [(0, .int v0)]) (by decide +kernel) (by simp [lv_args, mj_rfc, mj_cti, mj_ctl]) (by simp [mj_rfc, mj_cti, mj_ctl]) ?_
  unfold f_C_isRow
  refine rt_st (pc1 := 6) (fun _ _ B => go_iload_n 0 d_C_isRow_0 rfl (go_bipush (v := (8 : Int32)) d_C_isRow_1 (by decide) (go_callS1 (st := []) [.int v0, .int (8 : Int32)] (t_C_within v0 (8 : Int32) h) mm_C_within (by decide) d_C_isRow_3 w313 w314 rfl (Nat.le_of_ble_eq_true rfl) rfl B))) ?_
  exact rt_bool d_C_isRow_6 rfl (z_C_within ..)
set_option maxHeartbeats 4000000 in
set_option maxRecDepth 200000 in
theorem z_C_isRow (v0 : Int32) : (f_C_isRow v0) &&& 1 = f_C_isRow v0 := by
  unfold f_C_isRow
  repeat' split
  all_goals first | decide | exact z_C_within .. | skip
/-! WideTurn.Rows.isMissing(I)Z -/
def f_Rw_isMissing (v0 : Option Nat) (v1 : Int32) (h : MH) : Option (Int32) :=
  if (f_C_isRow v1) = 0 then
    some (1 : Int32)
  else
    Option.bind (gfr h v0 [5] 1) fun x2 =>
    Option.bind (f_C_at x2 v1 h) fun x4 =>
    if x4 = (-1 : Int32) then
      some (1 : Int32)
    else
      some (0 : Int32)
set_option maxHeartbeats 4000000 in
set_option maxRecDepth 200000 in
theorem t_Rw_isMissing (v0 : Option Nat) (v1 : Int32) (h : MH) (r : (Int32)) (hyp : f_Rw_isMissing v0 v1 h = some r) : Mt mi_Rw_isMissing 3 [va_rf v0, .int v1] h (some (.int r)) h := by
  refine Mt.rt (lv := [(0, va_rf v0), (1, .int v1)]) (by decide +kernel) (by simp [lv_args, mj_rfc, mj_cti, mj_ctl]) (by simp [mj_rfc, mj_cti, mj_ctl]) ?_
  unfold f_Rw_isMissing at hyp
  refine rt_st (pc1 := 4) (fun _ _ B => go_iload_n 1 d_Rw_isMissing_0 rfl (go_callSN1 (st := []) [.int v1] (t_C_isRow v1 h) mm_C_isRow (by decide) d_Rw_isMissing_1 w341 w311 rfl (Nat.le_of_ble_eq_true rfl) rfl B)) ?_
  by_cases c1 : (f_C_isRow v1) = 0
  · replace hyp := (if_pos c1).symm.trans hyp
    refine rt_st (pc1 := 24) (fun _ _ B => go_if_eq_t 19 d_Rw_isMissing_4 rfl c1 (go_iconst (v := (1 : Int32)) d_Rw_isMissing_19 (by decide) (go_goto 24 d_Rw_isMissing_20 rfl B))) ?_
    exact rt_eqR Value.int hyp (rt_bool d_Rw_isMissing_24 rfl (by decide))
  · replace hyp := (if_neg c1).symm.trans hyp
    obtain ⟨x2, e3, hyp⟩ := Option.bind_eq_some_iff.mp hyp
    obtain ⟨x4, e5, hyp⟩ := Option.bind_eq_some_iff.mp hyp
    refine rt_st (pc1 := 16) (fun _ _ B => go_if_eq_f d_Rw_isMissing_4 rfl c1 (go_aload_n 0 d_Rw_isMissing_7 rfl (go_gfr d_Rw_isMissing_8 fd_5_1 w88 e3 (go_iload_n 1 d_Rw_isMissing_11 rfl (go_callSN1 (st := []) [va_rf x2, .int v1] (t_C_at x2 v1 h _ e5) mm_C_at (by decide) d_Rw_isMissing_12 w342 w343 rfl (Nat.le_of_ble_eq_true rfl) rfl (go_iconst (v := (-1 : Int32)) d_Rw_isMissing_15 (by decide) B)))))) ?_
    by_cases c6 : x4 = (-1 : Int32)
    · replace hyp := (if_pos c6).symm.trans hyp
      refine rt_st (pc1 := 24) (fun _ _ B => go_icmp_ne_f d_Rw_isMissing_16 rfl c6 (go_iconst (v := (1 : Int32)) d_Rw_isMissing_19 (by decide) (go_goto 24 d_Rw_isMissing_20 rfl B))) ?_
      exact rt_eqR Value.int hyp (rt_bool d_Rw_isMissing_24 rfl (by decide))
    · replace hyp := (if_neg c6).symm.trans hyp
      refine rt_st (pc1 := 24) (fun _ _ B => go_icmp_ne_t 23 d_Rw_isMissing_16 rfl c6 (go_iconst (v := (0 : Int32)) d_Rw_isMissing_23 (by decide) B)) ?_
      exact rt_eqR Value.int hyp (rt_bool d_Rw_isMissing_24 rfl (by decide))
/-! WideTurn.Rows.areAlike(II)Z -/
def f_Rw_areAlike (v0 : Option Nat) (v1 : Int32) (v2 : Int32) (h : MH) : Option (Int32) :=
  Option.bind (gfr h v0 [5] 1) fun x1 =>
  Option.bind (f_C_at x1 v1 h) fun x3 =>
  Option.bind (gfr h v0 [5] 1) fun x5 =>
  Option.bind (f_C_at x5 v2 h) fun x7 =>
  if x3 = x7 then
    some (1 : Int32)
  else
    some (0 : Int32)
set_option maxHeartbeats 4000000 in
set_option maxRecDepth 200000 in
theorem t_Rw_areAlike (v0 : Option Nat) (v1 : Int32) (v2 : Int32) (h : MH) (r : (Int32)) (hyp : f_Rw_areAlike v0 v1 v2 h = some r) : Mt mi_Rw_areAlike 2 [va_rf v0, .int v1, .int v2] h (some (.int r)) h := by
  refine Mt.rt (lv := [(0, va_rf v0), (1, .int v1), (2, .int v2)]) (by decide +kernel) (by simp [lv_args, mj_rfc, mj_cti, mj_ctl]) (by simp [mj_rfc, mj_cti, mj_ctl]) ?_
  unfold f_Rw_areAlike at hyp
  obtain ⟨x1, e2, hyp⟩ := Option.bind_eq_some_iff.mp hyp
  obtain ⟨x3, e4, hyp⟩ := Option.bind_eq_some_iff.mp hyp
  obtain ⟨x5, e6, hyp⟩ := Option.bind_eq_some_iff.mp hyp
  obtain ⟨x7, e8, hyp⟩ := Option.bind_eq_some_iff.mp hyp
  refine rt_st (pc1 := 16) (fun _ _ B => go_aload_n 0 d_Rw_areAlike_0 rfl (go_gfr d_Rw_areAlike_1 fd_5_1 w88 e2 (go_iload_n 1 d_Rw_areAlike_4 rfl (go_callSN1 (st := []) [va_rf x1, .int v1] (t_C_at x1 v1 h _ e4) mm_C_at (by decide) d_Rw_areAlike_5 w342 w343 rfl (Nat.le_of_ble_eq_true rfl) rfl (go_aload_n 0 d_Rw_areAlike_8 rfl (go_gfr d_Rw_areAlike_9 fd_5_1 w88 e6 (go_iload_n 2 d_Rw_areAlike_12 rfl (go_callSN1 (st := [.int x3]) [va_rf x5, .int v2] (t_C_at x5 v2 h _ e8) mm_C_at (by decide) d_Rw_areAlike_13 w342 w343 rfl (Nat.le_of_ble_eq_true rfl) rfl B)))))))) ?_
  by_cases c9 : x3 = x7
  · replace hyp := (if_pos c9).symm.trans hyp
    refine rt_st (pc1 := 24) (fun _ _ B => go_icmp_ne_f d_Rw_areAlike_16 rfl c9 (go_iconst (v := (1 : Int32)) d_Rw_areAlike_19 (by decide) (go_goto 24 d_Rw_areAlike_20 rfl B))) ?_
    exact rt_eqR Value.int hyp (rt_bool d_Rw_areAlike_24 rfl (by decide))
  · replace hyp := (if_neg c9).symm.trans hyp
    refine rt_st (pc1 := 24) (fun _ _ B => go_icmp_ne_t 23 d_Rw_areAlike_16 rfl c9 (go_iconst (v := (0 : Int32)) d_Rw_areAlike_23 (by decide) B)) ?_
    exact rt_eqR Value.int hyp (rt_bool d_Rw_areAlike_24 rfl (by decide))
/-! WideTurn.Rows.holds(III)Z -/
def f_Rw_holds (v0 : Option Nat) (v1 : Int32) (v2 : Int32) (v3 : Int32) (h : MH) : Option (Int32) :=
  if v2 < 0 then
    some (0 : Int32)
  else
    if v3 < 0 then
      some (0 : Int32)
    else
      Option.bind (gfr h v0 [5] 2) fun x3 =>
      Option.bind (f_C_at x3 v1 h) fun x5 =>
      if x5 < v3 then
        some (0 : Int32)
      else
        Option.bind (gfr h v0 [5] 2) fun x8 =>
        Option.bind (f_C_at x8 v1 h) fun x10 =>
        if (x10 - v3) < v2 then
          some (0 : Int32)
        else
          some (1 : Int32)
set_option maxHeartbeats 4000000 in
set_option maxRecDepth 200000 in
theorem t_Rw_holds (v0 : Option Nat) (v1 : Int32) (v2 : Int32) (v3 : Int32) (h : MH) (r : (Int32)) (hyp : f_Rw_holds v0 v1 v2 v3 h = some r) : Mt mi_Rw_holds 2 [va_rf v0, .int v1, .int v2, .int v3] h (some (.int r)) h := by
  refine Mt.rt (lv := [(0, va_rf v0), (1, .int v1), (2, .int v2), (3, .int v3)]) (by decide +kernel) (by simp [lv_args, mj_rfc, mj_cti, mj_ctl]) (by simp [mj_rfc, mj_cti, mj_ctl]) ?_
  unfold f_Rw_holds at hyp
  refine rt_st (pc1 := 1) (fun _ _ B => go_iload_n 2 d_Rw_holds_0 rfl B) ?_
  by_cases c1 : v2 < 0
  · replace hyp := (if_pos c1).symm.trans hyp
    refine rt_st (pc1 := 39) (fun _ _ B => go_if_lt_t 38 d_Rw_holds_1 rfl c1 (go_iconst (v := (0 : Int32)) d_Rw_holds_38 (by decide) B)) ?_
    exact rt_eqR Value.int hyp (rt_bool d_Rw_holds_39 rfl (by decide))
  · replace hyp := (if_neg c1).symm.trans hyp
    refine rt_st (pc1 := 5) (fun _ _ B => go_if_lt_f d_Rw_holds_1 rfl c1 (go_iload_n 3 d_Rw_holds_4 rfl B)) ?_
    by_cases c2 : v3 < 0
    · replace hyp := (if_pos c2).symm.trans hyp
      refine rt_st (pc1 := 39) (fun _ _ B => go_if_lt_t 38 d_Rw_holds_5 rfl c2 (go_iconst (v := (0 : Int32)) d_Rw_holds_38 (by decide) B)) ?_
      exact rt_eqR Value.int hyp (rt_bool d_Rw_holds_39 rfl (by decide))
    · replace hyp := (if_neg c2).symm.trans hyp
      obtain ⟨x3, e4, hyp⟩ := Option.bind_eq_some_iff.mp hyp
      obtain ⟨x5, e6, hyp⟩ := Option.bind_eq_some_iff.mp hyp
      refine rt_st (pc1 := 17) (fun _ _ B => go_if_lt_f d_Rw_holds_5 rfl c2 (go_iload_n 3 d_Rw_holds_8 rfl (go_aload_n 0 d_Rw_holds_9 rfl (go_gfr d_Rw_holds_10 fd_5_2 w89 e4 (go_iload_n 1 d_Rw_holds_13 rfl (go_callSN1 (st := [.int v3]) [va_rf x3, .int v1] (t_C_at x3 v1 h _ e6) mm_C_at (by decide) d_Rw_holds_14 w342 w343 rfl (Nat.le_of_ble_eq_true rfl) rfl B)))))) ?_
      by_cases c7 : x5 < v3
      · replace hyp := (if_pos c7).symm.trans hyp
        refine rt_st (pc1 := 39) (fun _ _ B => go_icmp_gt_t 38 d_Rw_holds_17 rfl c7 (go_iconst (v := (0 : Int32)) d_Rw_holds_38 (by decide) B)) ?_
        exact rt_eqR Value.int hyp (rt_bool d_Rw_holds_39 rfl (by decide))
      · replace hyp := (if_neg c7).symm.trans hyp
        obtain ⟨x8, e9, hyp⟩ := Option.bind_eq_some_iff.mp hyp
        obtain ⟨x10, e11, hyp⟩ := Option.bind_eq_some_iff.mp hyp
        refine rt_st (pc1 := 31) (fun _ _ B => go_icmp_gt_f d_Rw_holds_17 rfl c7 (go_iload_n 2 d_Rw_holds_20 rfl (go_aload_n 0 d_Rw_holds_21 rfl (go_gfr d_Rw_holds_22 fd_5_2 w89 e9 (go_iload_n 1 d_Rw_holds_25 rfl (go_callSN1 (st := [.int v2]) [va_rf x8, .int v1] (t_C_at x8 v1 h _ e11) mm_C_at (by decide) d_Rw_holds_26 w342 w343 rfl (Nat.le_of_ble_eq_true rfl) rfl (go_iload_n 3 d_Rw_holds_29 rfl (go_isub d_Rw_holds_30 B)))))))) ?_
        by_cases c12 : (x10 - v3) < v2
        · replace hyp := (if_pos c12).symm.trans hyp
          refine rt_st (pc1 := 39) (fun _ _ B => go_icmp_gt_t 38 d_Rw_holds_31 rfl c12 (go_iconst (v := (0 : Int32)) d_Rw_holds_38 (by decide) B)) ?_
          exact rt_eqR Value.int hyp (rt_bool d_Rw_holds_39 rfl (by decide))
        · replace hyp := (if_neg c12).symm.trans hyp
          refine rt_st (pc1 := 39) (fun _ _ B => go_icmp_gt_f d_Rw_holds_31 rfl c12 (go_iconst (v := (1 : Int32)) d_Rw_holds_34 (by decide) (go_goto 39 d_Rw_holds_35 rfl B))) ?_
          exact rt_eqR Value.int hyp (rt_bool d_Rw_holds_39 rfl (by decide))
/-! WideTurn.Rows.make(III)V -/
def b_Rw_make_21 (F : Nat) : Nat → (Option Nat) → (Int32) → (Int32) → (MH) → (Option MH)
  | 0 => fun _ _ _ _ => none
  | n + 1 => fun v0 v1 v4 h => 
    if (40 : Int32) ≤ v4 then
      some h
    else
      Option.bind (gfr h v0 [5] 0) fun x2 =>
      Option.bind (f_C_put x2 ((v1 * (40 : Int32)) + v4) (0 : Int32) h) fun h4 =>
      (b_Rw_make_21 F n) v0 v1 (v4 + (1 : Int32)) h4
def f_Rw_make (F : Nat) (v0 : Option Nat) (v1 : Int32) (v2 : Int32) (v3 : Int32) (h : MH) : Option MH :=
  Option.bind (gfr h v0 [5] 1) fun x1 =>
  Option.bind (f_C_put x1 v1 v2 h) fun h3 =>
  Option.bind (gfr h3 v0 [5] 2) fun x5 =>
  Option.bind (f_C_put x5 v1 v3 h3) fun h7 =>
  b_Rw_make_21 F F v0 v1 (0 : Int32) h7
set_option maxHeartbeats 4000000 in
set_option maxRecDepth 200000 in
theorem p_Rw_make_21 (F : Nat) {h0 : MH} : ∀ (n : Nat) (v0 : Option Nat) (v1 : Int32) (v4 : Int32) (h : MH) (r : MH), b_Rw_make_21 F  n v0 v1 v4 h = some r → Rt mi_Rw_make 2 h0 21 [(0, va_rf v0), (1, .int v1), (4, .int v4)] [] h none r := by
  intro n
  induction n with
  | zero =>
    intro v0 v1 v4 h r hyp
    cases hyp
  | succ n ih =>
    intro v0 v1 v4 h r hyp
    unfold b_Rw_make_21 at hyp
    refine rt_st (pc1 := 25) (fun _ _ B => go_iload 2 d_Rw_make_21 rfl (go_bipush (v := (40 : Int32)) d_Rw_make_23 (by decide) B)) ?_
    by_cases c1 : (40 : Int32) ≤ v4
    · replace hyp := (if_pos c1).symm.trans hyp
      refine rt_st (pc1 := 49) (fun _ _ B => go_icmp_ge_t 49 d_Rw_make_25 rfl c1 B) ?_
      exact rt_eq0 hyp (rt_void d_Rw_make_49 rfl)
    · replace hyp := (if_neg c1).symm.trans hyp
      obtain ⟨x2, e3, hyp⟩ := Option.bind_eq_some_iff.mp hyp
      obtain ⟨h4, e5, hyp⟩ := Option.bind_eq_some_iff.mp hyp
      refine rt_st (pc1 := 21) (fun _ _ B => go_icmp_ge_f d_Rw_make_25 rfl c1 (go_aload_n 0 d_Rw_make_28 rfl (go_gfr d_Rw_make_29 fd_5_0 w87 e3 (go_iload_n 1 d_Rw_make_32 rfl (go_bipush (v := (40 : Int32)) d_Rw_make_33 (by decide) (go_imul d_Rw_make_35 (go_iload 2 d_Rw_make_36 rfl (go_iadd d_Rw_make_38 (go_iconst (v := (0 : Int32)) d_Rw_make_39 (by decide) (go_callSN0 (st := []) [va_rf x2, .int ((v1 * (40 : Int32)) + v4), .int (0 : Int32)] (t_C_put x2 ((v1 * (40 : Int32)) + v4) (0 : Int32) h _ e5) mm_C_put (by decide) d_Rw_make_40 w326 w327 rfl (Nat.le_of_ble_eq_true rfl) rfl (go_iinc (v := (v4 + (1 : Int32))) (lv1 := [(4, .int (v4 + (1 : Int32))), (0, va_rf v0), (1, .int v1)]) 2 d_Rw_make_43 rfl rfl (by decide) rfl (go_goto 21 d_Rw_make_46 rfl B)))))))))))) ?_
      refine rt_sub [1, 2, 0] (lv1 := [(0, va_rf v0), (1, .int v1), (4, .int (v4 + (1 : Int32)))]) rfl ?_
      exact ih _ _ _ _ _ hyp
set_option maxHeartbeats 4000000 in
set_option maxRecDepth 200000 in
theorem t_Rw_make (F : Nat) (v0 : Option Nat) (v1 : Int32) (v2 : Int32) (v3 : Int32) (h : MH) (r : MH) (hyp : f_Rw_make F v0 v1 v2 v3 h = some r) : Mt mi_Rw_make 2 [va_rf v0, .int v1, .int v2, .int v3] h none r := by
  refine Mt.rt (lv := [(0, va_rf v0), (1, .int v1), (2, .int v2), (3, .int v3)]) (by decide +kernel) (by simp [lv_args, mj_rfc, mj_cti, mj_ctl]) (by simp [mj_rfc, mj_cti, mj_ctl]) ?_
  unfold f_Rw_make at hyp
  obtain ⟨x1, e2, hyp⟩ := Option.bind_eq_some_iff.mp hyp
  obtain ⟨h3, e4, hyp⟩ := Option.bind_eq_some_iff.mp hyp
  obtain ⟨x5, e6, hyp⟩ := Option.bind_eq_some_iff.mp hyp
  obtain ⟨h7, e8, hyp⟩ := Option.bind_eq_some_iff.mp hyp
  refine rt_st (pc1 := 21) (fun _ _ B => go_aload_n 0 d_Rw_make_0 rfl (go_gfr d_Rw_make_1 fd_5_1 w88 e2 (go_iload_n 1 d_Rw_make_4 rfl (go_iload_n 2 d_Rw_make_5 rfl (go_callSN0 (st := []) [va_rf x1, .int v1, .int v2] (t_C_put x1 v1 v2 h _ e4) mm_C_put (by decide) d_Rw_make_6 w326 w327 rfl (Nat.le_of_ble_eq_true rfl) rfl (go_aload_n 0 d_Rw_make_9 rfl (go_gfr d_Rw_make_10 fd_5_2 w89 e6 (go_iload_n 1 d_Rw_make_13 rfl (go_iload_n 3 d_Rw_make_14 rfl (go_callSN0 (st := []) [va_rf x5, .int v1, .int v3] (t_C_put x5 v1 v3 h3 _ e8) mm_C_put (by decide) d_Rw_make_15 w326 w327 rfl (Nat.le_of_ble_eq_true rfl) rfl (go_iconst (v := (0 : Int32)) d_Rw_make_18 (by decide) (go_istore (lv1 := [(4, .int (0 : Int32)), (0, va_rf v0), (1, .int v1), (2, .int v2), (3, .int v3)]) d_Rw_make_19 (by decide) rfl B)))))))))))) ?_
  refine rt_sub [1, 2, 0] (lv1 := [(0, va_rf v0), (1, .int v1), (4, .int (0 : Int32))]) rfl ?_
  exact p_Rw_make_21 F F _ _ _ _ r hyp
/-! WideTurn.Rows.remove(I)I -/
def f_Rw_remove (v0 : Option Nat) (v1 : Int32) (h : MH) : Option (Int32 × MH) :=
  Option.bind (gfr h v0 [5] 2) fun x1 =>
  Option.bind (f_C_at x1 v1 h) fun x3 =>
  Option.bind (gfr h v0 [5] 1) fun x5 =>
  Option.bind (f_C_put x5 v1 (-1 : Int32) h) fun h7 =>
  Option.bind (gfr h7 v0 [5] 2) fun x9 =>
  Option.bind (f_C_put x9 v1 (0 : Int32) h7) fun h11 =>
  some (x3, h11)
set_option maxHeartbeats 4000000 in
set_option maxRecDepth 200000 in
theorem t_Rw_remove (v0 : Option Nat) (v1 : Int32) (h : MH) (r : (Int32 × MH)) (hyp : f_Rw_remove v0 v1 h = some r) : Mt mi_Rw_remove 2 [va_rf v0, .int v1] h (some (.int r.1)) r.2 := by
  refine Mt.rt (lv := [(0, va_rf v0), (1, .int v1)]) (by decide +kernel) (by simp [lv_args, mj_rfc, mj_cti, mj_ctl]) (by simp [mj_rfc, mj_cti, mj_ctl]) ?_
  unfold f_Rw_remove at hyp
  obtain ⟨x1, e2, hyp⟩ := Option.bind_eq_some_iff.mp hyp
  obtain ⟨x3, e4, hyp⟩ := Option.bind_eq_some_iff.mp hyp
  obtain ⟨x5, e6, hyp⟩ := Option.bind_eq_some_iff.mp hyp
  obtain ⟨h7, e8, hyp⟩ := Option.bind_eq_some_iff.mp hyp
  obtain ⟨x9, e10, hyp⟩ := Option.bind_eq_some_iff.mp hyp
  obtain ⟨h11, e12, hyp⟩ := Option.bind_eq_some_iff.mp hyp
  refine rt_st (pc1 := 28) (fun _ _ B => go_aload_n 0 d_Rw_remove_0 rfl (go_gfr d_Rw_remove_1 fd_5_2 w89 e2 (go_iload_n 1 d_Rw_remove_4 rfl (go_callSN1 (st := []) [va_rf x1, .int v1] (t_C_at x1 v1 h _ e4) mm_C_at (by decide) d_Rw_remove_5 w342 w343 rfl (Nat.le_of_ble_eq_true rfl) rfl (go_istore_n (lv1 := [(2, .int x3), (0, va_rf v0), (1, .int v1)]) d_Rw_remove_8 (by decide) rfl (go_aload_n 1 d_Rw_remove_9 rfl (go_gfr d_Rw_remove_10 fd_5_1 w88 e6 (go_iload_n 2 d_Rw_remove_13 rfl (go_iconst (v := (-1 : Int32)) d_Rw_remove_14 (by decide) (go_callSN0 (st := []) [va_rf x5, .int v1, .int (-1 : Int32)] (t_C_put x5 v1 (-1 : Int32) h _ e8) mm_C_put (by decide) d_Rw_remove_15 w326 w327 rfl (Nat.le_of_ble_eq_true rfl) rfl (go_aload_n 1 d_Rw_remove_18 rfl (go_gfr d_Rw_remove_19 fd_5_2 w89 e10 (go_iload_n 2 d_Rw_remove_22 rfl (go_iconst (v := (0 : Int32)) d_Rw_remove_23 (by decide) (go_callSN0 (st := []) [va_rf x9, .int v1, .int (0 : Int32)] (t_C_put x9 v1 (0 : Int32) h7 _ e12) mm_C_put (by decide) d_Rw_remove_24 w326 w327 rfl (Nat.le_of_ble_eq_true rfl) rfl (go_iload_n 0 d_Rw_remove_27 rfl B)))))))))))))))) ?_
  exact rt_eqW Value.int hyp (rt_int d_Rw_remove_28 rfl)
/-! WideTurn.Rows.store(III)I -/
def b_Rw_store_32 : (Option Nat) → (Int32) → (Int32) → (Int32) → (MH) → (Option (Int32 × MH)) := fun v0 v1 v2 s0 h => 
  Option.bind (gfr h v0 [5] 0) fun x1 =>
  Option.bind (f_C_put x1 ((v1 * (40 : Int32)) + v2) s0 h) fun h3 =>
  some (s0, h3)
def f_Rw_store (v0 : Option Nat) (v1 : Int32) (v2 : Int32) (v3 : Int32) (h : MH) : Option (Int32 × MH) :=
  Option.bind (gfr h v0 [5] 1) fun x1 =>
  Option.bind (f_C_at x1 v1 h) fun x3 =>
  if x3 = 0 then
    b_Rw_store_32 v0 v1 v2 (Int8.toInt32 (Int32.toInt8 v3)) h
  else
    if x3 = (1 : Int32) then
      b_Rw_store_32 v0 v1 v2 (Int16.toInt32 (Int32.toInt16 v3)) h
    else
      b_Rw_store_32 v0 v1 v2 v3 h
set_option maxHeartbeats 4000000 in
set_option maxRecDepth 200000 in
theorem p_Rw_store_32 {h0 : MH} (v0 : Option Nat) (v1 : Int32) (v2 : Int32) (s0 : Int32) (h : MH) (r : (Int32 × MH)) : b_Rw_store_32  v0 v1 v2 s0 h = some r → Rt mi_Rw_store 2 h0 32 [(0, va_rf v0), (1, .int v1), (2, .int v2)] [.int s0] h (some (.int r.1)) r.2 := by
  intro hyp
  unfold b_Rw_store_32 at hyp
  obtain ⟨x1, e2, hyp⟩ := Option.bind_eq_some_iff.mp hyp
  obtain ⟨h3, e4, hyp⟩ := Option.bind_eq_some_iff.mp hyp
  refine rt_st (pc1 := 51) (fun _ _ B => go_istore (lv1 := [(5, .int s0), (0, va_rf v0), (1, .int v1), (2, .int v2)]) d_Rw_store_32 (by decide) rfl (go_aload_n 1 d_Rw_store_34 rfl (go_gfr d_Rw_store_35 fd_5_0 w87 e2 (go_iload_n 2 d_Rw_store_38 rfl (go_bipush (v := (40 : Int32)) d_Rw_store_39 (by decide) (go_imul d_Rw_store_41 (go_iload_n 3 d_Rw_store_42 rfl (go_iadd d_Rw_store_43 (go_iload 0 d_Rw_store_44 rfl (go_callSN0 (st := []) [va_rf x1, .int ((v1 * (40 : Int32)) + v2), .int s0] (t_C_put x1 ((v1 * (40 : Int32)) + v2) s0 h _ e4) mm_C_put (by decide) d_Rw_store_46 w326 w327 rfl (Nat.le_of_ble_eq_true rfl) rfl (go_iload 0 d_Rw_store_49 rfl B))))))))))) ?_
  exact rt_eqW Value.int hyp (rt_int d_Rw_store_51 rfl)
set_option maxHeartbeats 4000000 in
set_option maxRecDepth 200000 in
theorem t_Rw_store (v0 : Option Nat) (v1 : Int32) (v2 : Int32) (v3 : Int32) (h : MH) (r : (Int32 × MH)) (hyp : f_Rw_store v0 v1 v2 v3 h = some r) : Mt mi_Rw_store 2 [va_rf v0, .int v1, .int v2, .int v3] h (some (.int r.1)) r.2 := by
  refine Mt.rt (lv := [(0, va_rf v0), (1, .int v1), (2, .int v2), (3, .int v3)]) (by decide +kernel) (by simp [lv_args, mj_rfc, mj_cti, mj_ctl]) (by simp [mj_rfc, mj_cti, mj_ctl]) ?_
  unfold f_Rw_store at hyp
  obtain ⟨x1, e2, hyp⟩ := Option.bind_eq_some_iff.mp hyp
  obtain ⟨x3, e4, hyp⟩ := Option.bind_eq_some_iff.mp hyp
  refine rt_st (pc1 := 12) (fun _ _ B => go_aload_n 0 d_Rw_store_0 rfl (go_gfr d_Rw_store_1 fd_5_1 w88 e2 (go_iload_n 1 d_Rw_store_4 rfl (go_callSN1 (st := []) [va_rf x1, .int v1] (t_C_at x1 v1 h _ e4) mm_C_at (by decide) d_Rw_store_5 w342 w343 rfl (Nat.le_of_ble_eq_true rfl) rfl (go_istore (lv1 := [(4, .int x3), (0, va_rf v0), (1, .int v1), (2, .int v2), (3, .int v3)]) d_Rw_store_8 (by decide) rfl (go_iload 0 d_Rw_store_10 rfl B)))))) ?_
  by_cases c5 : x3 = 0
  · replace hyp := (if_pos c5).symm.trans hyp
    refine rt_st (pc1 := 32) (fun _ _ B => go_if_ne_f d_Rw_store_12 rfl c5 (go_iload_n 4 d_Rw_store_15 rfl (go_i2b d_Rw_store_16 (go_goto 32 d_Rw_store_17 rfl B)))) ?_
    refine rt_sub [1, 2, 3] (lv1 := [(0, va_rf v0), (1, .int v1), (2, .int v2)]) rfl ?_
    exact p_Rw_store_32 _ _ _ _ _ r hyp
  · replace hyp := (if_neg c5).symm.trans hyp
    refine rt_st (pc1 := 23) (fun _ _ B => go_if_ne_t 20 d_Rw_store_12 rfl c5 (go_iload 0 d_Rw_store_20 rfl (go_iconst (v := (1 : Int32)) d_Rw_store_22 (by decide) B))) ?_
    by_cases c6 : x3 = (1 : Int32)
    · replace hyp := (if_pos c6).symm.trans hyp
      refine rt_st (pc1 := 32) (fun _ _ B => go_icmp_ne_f d_Rw_store_23 rfl c6 (go_iload_n 4 d_Rw_store_26 rfl (go_i2s d_Rw_store_27 (go_goto 32 d_Rw_store_28 rfl B)))) ?_
      refine rt_sub [1, 2, 3] (lv1 := [(0, va_rf v0), (1, .int v1), (2, .int v2)]) rfl ?_
      exact p_Rw_store_32 _ _ _ _ _ r hyp
    · replace hyp := (if_neg c6).symm.trans hyp
      refine rt_st (pc1 := 32) (fun _ _ B => go_icmp_ne_t 31 d_Rw_store_23 rfl c6 (go_iload_n 4 d_Rw_store_31 rfl B)) ?_
      refine rt_sub [1, 2, 3] (lv1 := [(0, va_rf v0), (1, .int v1), (2, .int v2)]) rfl ?_
      exact p_Rw_store_32 _ _ _ _ _ r hyp
/-! WideTurn.Rows.item(II)I -/
def f_Rw_item (v0 : Option Nat) (v1 : Int32) (v2 : Int32) (h : MH) : Option (Int32) :=
  Option.bind (gfr h v0 [5] 0) fun x1 =>
  Option.bind (f_C_at x1 ((v1 * (40 : Int32)) + v2) h) fun x3 =>
  some x3
set_option maxHeartbeats 4000000 in
set_option maxRecDepth 200000 in
theorem t_Rw_item (v0 : Option Nat) (v1 : Int32) (v2 : Int32) (h : MH) (r : (Int32)) (hyp : f_Rw_item v0 v1 v2 h = some r) : Mt mi_Rw_item 2 [va_rf v0, .int v1, .int v2] h (some (.int r)) h := by
  refine Mt.rt (lv := [(0, va_rf v0), (1, .int v1), (2, .int v2)]) (by decide +kernel) (by simp [lv_args, mj_rfc, mj_cti, mj_ctl]) (by simp [mj_rfc, mj_cti, mj_ctl]) ?_
  unfold f_Rw_item at hyp
  obtain ⟨x1, e2, hyp⟩ := Option.bind_eq_some_iff.mp hyp
  obtain ⟨x3, e4, hyp⟩ := Option.bind_eq_some_iff.mp hyp
  refine rt_st (pc1 := 13) (fun _ _ B => go_aload_n 0 d_Rw_item_0 rfl (go_gfr d_Rw_item_1 fd_5_0 w87 e2 (go_iload_n 1 d_Rw_item_4 rfl (go_bipush (v := (40 : Int32)) d_Rw_item_5 (by decide) (go_imul d_Rw_item_7 (go_iload_n 2 d_Rw_item_8 rfl (go_iadd d_Rw_item_9 (go_callSN1 (st := []) [va_rf x1, .int ((v1 * (40 : Int32)) + v2)] (t_C_at x1 ((v1 * (40 : Int32)) + v2) h _ e4) mm_C_at (by decide) d_Rw_item_10 w342 w343 rfl (Nat.le_of_ble_eq_true rfl) rfl B)))))))) ?_
  exact rt_eqR Value.int hyp (rt_int d_Rw_item_13 rfl)
/-! WideTurn.Rows.carry(IIIII)V -/
def f_Rw_carry (v0 : Option Nat) (v1 : Int32) (v2 : Int32) (v3 : Int32) (v4 : Int32) (v5 : Int32) (h : MH) : Option MH :=
  Option.bind (onc h v0 5 (f_Rw_isMissing v0 v1 h)) fun x1 =>
  if x1 = 0 then
    Option.bind (onc h v0 5 (f_Rw_isMissing v0 v3 h)) fun x4 =>
    if x4 = 0 then
      Option.bind (onc h v0 5 (f_Rw_holds v0 v1 v2 v5 h)) fun x7 =>
      if x7 = 0 then
        some h
      else
        Option.bind (onc h v0 5 (f_Rw_holds v0 v3 v4 v5 h)) fun x10 =>
        if x10 = 0 then
          some h
        else
          Option.bind (gfr h v0 [5] 0) fun x13 =>
          Option.bind (gfr h v0 [5] 0) fun x15 =>
          Option.bind (mj_same x13 x15) fun _ =>
          Option.bind (cpy h x13 ((v1 * (40 : Int32)) + v2) ((v3 * (40 : Int32)) + v4) v5) fun h17 =>
          some h17
    else
      some h
  else
    some h
set_option maxHeartbeats 4000000 in
set_option maxRecDepth 200000 in
theorem t_Rw_carry (v0 : Option Nat) (v1 : Int32) (v2 : Int32) (v3 : Int32) (v4 : Int32) (v5 : Int32) (h : MH) (r : MH) (hyp : f_Rw_carry v0 v1 v2 v3 v4 v5 h = some r) : Mt mi_Rw_carry 4 [va_rf v0, .int v1, .int v2, .int v3, .int v4, .int v5] h none r := by
  refine Mt.rt (lv := [(0, va_rf v0), (1, .int v1), (2, .int v2), (3, .int v3), (4, .int v4), (5, .int v5)]) (by decide +kernel) (by simp [lv_args, mj_rfc, mj_cti, mj_ctl]) (by simp [mj_rfc, mj_cti, mj_ctl]) ?_
  unfold f_Rw_carry at hyp
  obtain ⟨x1, e2, hyp⟩ := Option.bind_eq_some_iff.mp hyp
  refine rt_st (pc1 := 5) (fun _ _ B => go_aload_n 0 d_Rw_carry_0 rfl (go_iload_n 1 d_Rw_carry_1 rfl (go_callV1 (q := q_5) (st := []) [.int v1] (t_Rw_isMissing v0 v1 h _ (onc_spec e2).2) mm_Rw_isMissing (by decide) d_Rw_carry_2 (onc_spec e2).1 rfl rfl w365 w338 w339 rfl (Nat.le_of_ble_eq_true rfl) rfl B))) ?_
  by_cases c3 : x1 = 0
  · replace hyp := (if_pos c3).symm.trans hyp
    obtain ⟨x4, e5, hyp⟩ := Option.bind_eq_some_iff.mp hyp
    refine rt_st (pc1 := 13) (fun _ _ B => go_if_ne_f d_Rw_carry_5 rfl c3 (go_aload_n 0 d_Rw_carry_8 rfl (go_iload_n 3 d_Rw_carry_9 rfl (go_callV1 (q := q_5) (st := []) [.int v3] (t_Rw_isMissing v0 v3 h _ (onc_spec e5).2) mm_Rw_isMissing (by decide) d_Rw_carry_10 (onc_spec e5).1 rfl rfl w365 w338 w339 rfl (Nat.le_of_ble_eq_true rfl) rfl B)))) ?_
    by_cases c6 : x4 = 0
    · replace hyp := (if_pos c6).symm.trans hyp
      obtain ⟨x7, e8, hyp⟩ := Option.bind_eq_some_iff.mp hyp
      refine rt_st (pc1 := 24) (fun _ _ B => go_if_ne_f d_Rw_carry_13 rfl c6 (go_aload_n 0 d_Rw_carry_16 rfl (go_iload_n 1 d_Rw_carry_17 rfl (go_iload_n 2 d_Rw_carry_18 rfl (go_iload 5 d_Rw_carry_19 rfl (go_callV1 (q := q_5) (st := []) [.int v1, .int v2, .int v5] (t_Rw_holds v0 v1 v2 v5 h _ (onc_spec e8).2) mm_Rw_holds (by decide) d_Rw_carry_21 (onc_spec e8).1 rfl rfl w366 w346 w347 rfl (Nat.le_of_ble_eq_true rfl) rfl B)))))) ?_
      by_cases c9 : x7 = 0
      · replace hyp := (if_pos c9).symm.trans hyp
        refine rt_st (pc1 := 65) (fun _ _ B => go_if_eq_t 65 d_Rw_carry_24 rfl c9 B) ?_
        exact rt_eq0 hyp (rt_void d_Rw_carry_65 rfl)
      · replace hyp := (if_neg c9).symm.trans hyp
        obtain ⟨x10, e11, hyp⟩ := Option.bind_eq_some_iff.mp hyp
        refine rt_st (pc1 := 36) (fun _ _ B => go_if_eq_f d_Rw_carry_24 rfl c9 (go_aload_n 0 d_Rw_carry_27 rfl (go_iload_n 3 d_Rw_carry_28 rfl (go_iload 4 d_Rw_carry_29 rfl (go_iload 5 d_Rw_carry_31 rfl (go_callV1 (q := q_5) (st := []) [.int v3, .int v4, .int v5] (t_Rw_holds v0 v3 v4 v5 h _ (onc_spec e11).2) mm_Rw_holds (by decide) d_Rw_carry_33 (onc_spec e11).1 rfl rfl w366 w346 w347 rfl (Nat.le_of_ble_eq_true rfl) rfl B)))))) ?_
        by_cases c12 : x10 = 0
        · replace hyp := (if_pos c12).symm.trans hyp
          refine rt_st (pc1 := 65) (fun _ _ B => go_if_eq_t 65 d_Rw_carry_36 rfl c12 B) ?_
          exact rt_eq0 hyp (rt_void d_Rw_carry_65 rfl)
        · replace hyp := (if_neg c12).symm.trans hyp
          obtain ⟨x13, e14, hyp⟩ := Option.bind_eq_some_iff.mp hyp
          obtain ⟨x15, e16, hyp⟩ := Option.bind_eq_some_iff.mp hyp
          obtain ⟨_, e18, hyp⟩ := Option.bind_eq_some_iff.mp hyp
          obtain ⟨h17, e19, hyp⟩ := Option.bind_eq_some_iff.mp hyp
          refine rt_st (pc1 := 65) (fun _ _ B => go_if_eq_f d_Rw_carry_36 rfl c12 (go_aload_n 0 d_Rw_carry_39 rfl (go_gfr d_Rw_carry_40 fd_5_0 w87 e14 (go_iload_n 1 d_Rw_carry_43 rfl (go_bipush (v := (40 : Int32)) d_Rw_carry_44 (by decide) (go_imul d_Rw_carry_46 (go_iload_n 2 d_Rw_carry_47 rfl (go_iadd d_Rw_carry_48 (go_aload_n 0 d_Rw_carry_49 rfl (go_gfr d_Rw_carry_50 fd_5_0 w87 e16 (go_iload_n 3 d_Rw_carry_53 rfl (go_bipush (v := (40 : Int32)) d_Rw_carry_54 (by decide) (go_imul d_Rw_carry_56 (go_iload 4 d_Rw_carry_57 rfl (go_iadd d_Rw_carry_59 (go_iload 5 d_Rw_carry_60 rfl (go_cpyS (st := []) (mj_same_spec e18) (by decide) (by decide) d_Rw_carry_62 w367 w_cpN w_cpS w_cpI e19 B))))))))))))))))) ?_
          exact rt_eq0 hyp (rt_void d_Rw_carry_65 rfl)
    · replace hyp := (if_neg c6).symm.trans hyp
      refine rt_st (pc1 := 65) (fun _ _ B => go_if_ne_t 65 d_Rw_carry_13 rfl c6 B) ?_
      exact rt_eq0 hyp (rt_void d_Rw_carry_65 rfl)
  · replace hyp := (if_neg c3).symm.trans hyp
    refine rt_st (pc1 := 65) (fun _ _ B => go_if_ne_t 65 d_Rw_carry_5 rfl c3 B) ?_
    exact rt_eq0 hyp (rt_void d_Rw_carry_65 rfl)
/-! WideTurn.Rows.present()I -/
def b_Rw_present_24 (F : Nat) (h : MH) (k4 : (Option Nat) → Int32 → Int32 → (Option (Int32))) : (Option Nat) → (Int32) → (Int32) → (Int32) → (Option (Int32)) := fun v0 v2 s0 s1 => 
  k4 v0 (s0 + s1) (v2 + (1 : Int32))
def b_Rw_present_4 (F : Nat) (h : MH) : Nat → (Option Nat) → (Int32) → (Int32) → (Option (Int32))
  | 0 => fun _ _ _ => none
  | n + 1 => fun v0 v1 v2 => 
    if (8 : Int32) ≤ v2 then
      some v1
    else
      Option.bind (onc h v0 5 (f_Rw_isMissing v0 v2 h)) fun x2 =>
      if x2 = 0 then
        b_Rw_present_24 F h (b_Rw_present_4 F h n) v0 v2 v1 (1 : Int32)
      else
        b_Rw_present_24 F h (b_Rw_present_4 F h n) v0 v2 v1 (0 : Int32)
def f_Rw_present (F : Nat) (v0 : Option Nat) (h : MH) : Option (Int32) :=
  b_Rw_present_4 F h F v0 (0 : Int32) (0 : Int32)
set_option maxHeartbeats 4000000 in
set_option maxRecDepth 200000 in
theorem p_Rw_present_24 (F : Nat) (h : MH) {h0 : MH} (k4 : (Option Nat) → Int32 → Int32 → (Option (Int32))) (hk4 : ∀ (v0 : Option Nat) (v1 : Int32) (v2 : Int32) (r : (Int32)), k4 v0 v1 v2 = some r → Rt mi_Rw_present 4 h0 4 [(0, va_rf v0), (1, .int v1), (2, .int v2)] [] h (some (.int r)) h) (v0 : Option Nat) (v2 : Int32) (s0 : Int32) (s1 : Int32) (r : (Int32)) : b_Rw_present_24 F h k4  v0 v2 s0 s1 = some r → Rt mi_Rw_present 4 h0 24 [(0, va_rf v0), (2, .int v2)] [.int s1, .int s0] h (some (.int r)) h := by
  intro hyp
  unfold b_Rw_present_24 at hyp
  refine rt_st (pc1 := 4) (fun _ _ B => go_iadd d_Rw_present_24 (go_istore_n (lv1 := [(1, .int (s0 + s1)), (0, va_rf v0), (2, .int v2)]) d_Rw_present_25 (by decide) (by first | (simp [mj_s1, mj_s2, mj_rfc, mj_cti, mj_ctl]; done) | (simp [mj_s1, mj_s2, mj_rfc, mj_cti, mj_ctl]; decide)) (go_iinc (v := (v2 + (1 : Int32))) (lv1 := [(2, .int (v2 + (1 : Int32))), (1, .int (s0 + s1)), (0, va_rf v0)]) 2 d_Rw_present_26 rfl rfl (by decide) rfl (go_goto 4 d_Rw_present_29 rfl B)))) ?_
  refine rt_sub [2, 1, 0] (lv1 := [(0, va_rf v0), (1, .int (s0 + s1)), (2, .int (v2 + (1 : Int32)))]) rfl ?_
  exact hk4 _ _ _ _ hyp
set_option maxHeartbeats 4000000 in
set_option maxRecDepth 200000 in
theorem p_Rw_present_4 (F : Nat) (h : MH) {h0 : MH} : ∀ (n : Nat) (v0 : Option Nat) (v1 : Int32) (v2 : Int32) (r : (Int32)), b_Rw_present_4 F h  n v0 v1 v2 = some r → Rt mi_Rw_present 4 h0 4 [(0, va_rf v0), (1, .int v1), (2, .int v2)] [] h (some (.int r)) h := by
  intro n
  induction n with
  | zero =>
    intro v0 v1 v2 r hyp
    cases hyp
  | succ n ih =>
    intro v0 v1 v2 r hyp
    unfold b_Rw_present_4 at hyp
    refine rt_st (pc1 := 7) (fun _ _ B => go_iload_n 2 d_Rw_present_4 rfl (go_bipush (v := (8 : Int32)) d_Rw_present_5 (by decide) B)) ?_
    by_cases c1 : (8 : Int32) ≤ v2
    · replace hyp := (if_pos c1).symm.trans hyp
      refine rt_st (pc1 := 33) (fun _ _ B => go_icmp_ge_t 32 d_Rw_present_7 rfl c1 (go_iload_n 1 d_Rw_present_32 rfl B)) ?_
      exact rt_eqR Value.int hyp (rt_int d_Rw_present_33 rfl)
    · replace hyp := (if_neg c1).symm.trans hyp
      obtain ⟨x2, e3, hyp⟩ := Option.bind_eq_some_iff.mp hyp
      refine rt_st (pc1 := 16) (fun _ _ B => go_icmp_ge_f d_Rw_present_7 rfl c1 (go_iload_n 1 d_Rw_present_10 rfl (go_aload_n 0 d_Rw_present_11 rfl (go_iload_n 2 d_Rw_present_12 rfl (go_callV1 (q := q_5) (st := [.int v1]) [.int v2] (t_Rw_isMissing v0 v2 h _ (onc_spec e3).2) mm_Rw_isMissing (by decide) d_Rw_present_13 (onc_spec e3).1 rfl rfl w365 w338 w339 rfl (Nat.le_of_ble_eq_true rfl) rfl B))))) ?_
      by_cases c4 : x2 = 0
      · replace hyp := (if_pos c4).symm.trans hyp
        refine rt_st (pc1 := 24) (fun _ _ B => go_if_eq_t 23 d_Rw_present_16 rfl c4 (go_iconst (v := (1 : Int32)) d_Rw_present_23 (by decide) B)) ?_
        refine rt_sub [0, 2] (lv1 := [(0, va_rf v0), (2, .int v2)]) rfl ?_
        exact p_Rw_present_24 F h (b_Rw_present_4 F h n) (fun a0 a1 a2 r hyp => ih a0 a1 a2 r hyp) _ _ _ _ r hyp
      · replace hyp := (if_neg c4).symm.trans hyp
        refine rt_st (pc1 := 24) (fun _ _ B => go_if_eq_f d_Rw_present_16 rfl c4 (go_iconst (v := (0 : Int32)) d_Rw_present_19 (by decide) (go_goto 24 d_Rw_present_20 rfl B))) ?_
        refine rt_sub [0, 2] (lv1 := [(0, va_rf v0), (2, .int v2)]) rfl ?_
        exact p_Rw_present_24 F h (b_Rw_present_4 F h n) (fun a0 a1 a2 r hyp => ih a0 a1 a2 r hyp) _ _ _ _ r hyp
set_option maxHeartbeats 4000000 in
set_option maxRecDepth 200000 in
theorem t_Rw_present (F : Nat) (v0 : Option Nat) (h : MH) (r : (Int32)) (hyp : f_Rw_present F v0 h = some r) : Mt mi_Rw_present 4 [va_rf v0] h (some (.int r)) h := by
  refine Mt.rt (lv := [(0, va_rf v0)]) (by decide +kernel) (by simp [lv_args, mj_rfc, mj_cti, mj_ctl]) (by simp [mj_rfc, mj_cti, mj_ctl]) ?_
  unfold f_Rw_present at hyp
  refine rt_st (pc1 := 4) (fun _ _ B => go_iconst (v := (0 : Int32)) d_Rw_present_0 (by decide) (go_istore_n (lv1 := [(1, .int (0 : Int32)), (0, va_rf v0)]) d_Rw_present_1 (by decide) (by first | (simp [mj_s1, mj_s2, mj_rfc, mj_cti, mj_ctl]; done) | (simp [mj_s1, mj_s2, mj_rfc, mj_cti, mj_ctl]; decide)) (go_iconst (v := (0 : Int32)) d_Rw_present_2 (by decide) (go_istore_n (lv1 := [(2, .int (0 : Int32)), (1, .int (0 : Int32)), (0, va_rf v0)]) d_Rw_present_3 (by decide) rfl B)))) ?_
  refine rt_sub [2, 1, 0] (lv1 := [(0, va_rf v0), (1, .int (0 : Int32)), (2, .int (0 : Int32))]) rfl ?_
  exact p_Rw_present_4 F h F _ _ _ r hyp
/-! WideTurn.Search.<init>()V -/
def f_S_init (v0 : Option Nat) (h : MH) : Option MH :=
  Option.bind v0 fun t0 =>
  Option.bind (newA h 0 192) fun h2 =>
  Option.bind (pfv h2 v0 [6] 0 (va_rf (some h.2.1))) fun h4 =>
  Option.bind (newA h4 0 576) fun h6 =>
  Option.bind (pfv h6 v0 [6] 1 (va_rf (some h4.2.1))) fun h8 =>
  Option.bind (newA h8 0 576) fun h10 =>
  Option.bind (pfv h10 v0 [6] 2 (va_rf (some h8.2.1))) fun h12 =>
  Option.bind (newA h12 0 576) fun h14 =>
  Option.bind (pfv h14 v0 [6] 3 (va_rf (some h12.2.1))) fun h16 =>
  Option.bind (newA h16 0 576) fun h18 =>
  Option.bind (pfv h18 v0 [6] 4 (va_rf (some h16.2.1))) fun h20 =>
  Option.bind (newA h20 0 21) fun h22 =>
  Option.bind (pfv h22 v0 [6] 5 (va_rf (some h20.2.1))) fun h24 =>
  Option.bind (newA h24 0 10) fun h26 =>
  Option.bind (pfv h26 v0 [6] 6 (va_rf (some h24.2.1))) fun h28 =>
  Option.bind (newA h28 0 10) fun h30 =>
  Option.bind (pfv h30 v0 [6] 7 (va_rf (some h28.2.1))) fun h32 =>
  some h32
set_option maxHeartbeats 4000000 in
set_option maxRecDepth 200000 in
theorem t_S_init (v0 : Option Nat) (h : MH) (r : MH) (hyp : f_S_init v0 h = some r) : Mt mi_S_init 2 [va_rf v0] h none r := by
  refine Mt.rt (lv := [(0, va_rf v0)]) (by decide +kernel) (by simp [lv_args, mj_rfc, mj_cti, mj_ctl]) (by simp [mj_rfc, mj_cti, mj_ctl]) ?_
  unfold f_S_init at hyp
  obtain ⟨t0, hthis, hyp⟩ := Option.bind_eq_some_iff.mp hyp
  obtain ⟨h2, e3, hyp⟩ := Option.bind_eq_some_iff.mp hyp
  obtain ⟨h4, e5, hyp⟩ := Option.bind_eq_some_iff.mp hyp
  obtain ⟨h6, e7, hyp⟩ := Option.bind_eq_some_iff.mp hyp
  obtain ⟨h8, e9, hyp⟩ := Option.bind_eq_some_iff.mp hyp
  obtain ⟨h10, e11, hyp⟩ := Option.bind_eq_some_iff.mp hyp
  obtain ⟨h12, e13, hyp⟩ := Option.bind_eq_some_iff.mp hyp
  obtain ⟨h14, e15, hyp⟩ := Option.bind_eq_some_iff.mp hyp
  obtain ⟨h16, e17, hyp⟩ := Option.bind_eq_some_iff.mp hyp
  obtain ⟨h18, e19, hyp⟩ := Option.bind_eq_some_iff.mp hyp
  obtain ⟨h20, e21, hyp⟩ := Option.bind_eq_some_iff.mp hyp
  obtain ⟨h22, e23, hyp⟩ := Option.bind_eq_some_iff.mp hyp
  obtain ⟨h24, e25, hyp⟩ := Option.bind_eq_some_iff.mp hyp
  obtain ⟨h26, e27, hyp⟩ := Option.bind_eq_some_iff.mp hyp
  obtain ⟨h28, e29, hyp⟩ := Option.bind_eq_some_iff.mp hyp
  obtain ⟨h30, e31, hyp⟩ := Option.bind_eq_some_iff.mp hyp
  obtain ⟨h32, e33, hyp⟩ := Option.bind_eq_some_iff.mp hyp
  refine rt_st (pc1 := 73) (fun _ _ B => go_aload_n 0 d_S_init_0 rfl (go_objI (st := []) (mj_some hthis) (by decide) d_S_init_1 w159 w_objI w_objC (Nat.le_of_ble_eq_true rfl) (go_aload_n 0 d_S_init_4 rfl (go_sipush (v := (192 : Int32)) d_S_init_5 (by decide) (go_newA (by decide) rfl d_S_init_8 w_arr0 (by decide) (by decide) (by decide) e3 (go_pfr (ty := (.array .int)) d_S_init_10 fd_6_0 w160 (fun _ => ⟨rfl, rfl⟩) (by decide +kernel) rfl e5 (go_aload_n 0 d_S_init_13 rfl (go_sipush (v := (576 : Int32)) d_S_init_14 (by decide) (go_newA (by decide) rfl d_S_init_17 w_arr0 (by decide) (by decide) (by decide) e7 (go_pfr (ty := (.array .int)) d_S_init_19 fd_6_1 w161 (fun _ => ⟨rfl, rfl⟩) (by decide +kernel) rfl e9 (go_aload_n 0 d_S_init_22 rfl (go_sipush (v := (576 : Int32)) d_S_init_23 (by decide) (go_newA (by decide) rfl d_S_init_26 w_arr0 (by decide) (by decide) (by decide) e11 (go_pfr (ty := (.array .int)) d_S_init_28 fd_6_2 w162 (fun _ => ⟨rfl, rfl⟩) (by decide +kernel) rfl e13 (go_aload_n 0 d_S_init_31 rfl (go_sipush (v := (576 : Int32)) d_S_init_32 (by decide) (go_newA (by decide) rfl d_S_init_35 w_arr0 (by decide) (by decide) (by decide) e15 (go_pfr (ty := (.array .int)) d_S_init_37 fd_6_3 w163 (fun _ => ⟨rfl, rfl⟩) (by decide +kernel) rfl e17 (go_aload_n 0 d_S_init_40 rfl (go_sipush (v := (576 : Int32)) d_S_init_41 (by decide) (go_newA (by decide) rfl d_S_init_44 w_arr0 (by decide) (by decide) (by decide) e19 (go_pfr (ty := (.array .int)) d_S_init_46 fd_6_4 w164 (fun _ => ⟨rfl, rfl⟩) (by decide +kernel) rfl e21 (go_aload_n 0 d_S_init_49 rfl (go_bipush (v := (21 : Int32)) d_S_init_50 (by decide) (go_newA (by decide) rfl d_S_init_52 w_arr0 (by decide) (by decide) (by decide) e23 (go_pfr (ty := (.array .int)) d_S_init_54 fd_6_5 w165 (fun _ => ⟨rfl, rfl⟩) (by decide +kernel) rfl e25 (go_aload_n 0 d_S_init_57 rfl (go_bipush (v := (10 : Int32)) d_S_init_58 (by decide) (go_newA (by decide) rfl d_S_init_60 w_arr0 (by decide) (by decide) (by decide) e27 (go_pfr (ty := (.array .int)) d_S_init_62 fd_6_6 w166 (fun _ => ⟨rfl, rfl⟩) (by decide +kernel) rfl e29 (go_aload_n 0 d_S_init_65 rfl (go_bipush (v := (10 : Int32)) d_S_init_66 (by decide) (go_newA (by decide) rfl d_S_init_68 w_arr0 (by decide) (by decide) (by decide) e31 (go_pfr (ty := (.array .int)) d_S_init_70 fd_6_7 w167 (fun _ => ⟨rfl, rfl⟩) (by decide +kernel) rfl e33 B)))))))))))))))))))))))))))))))))) ?_
  exact rt_eq0 hyp (rt_void d_S_init_73 rfl)
/-! WideTurn.Search.stateOf(III)I -/
def f_S_stateOf (v0 : Int32) (v1 : Int32) (v2 : Int32) : Int32 :=
  ((((v0 * (8 : Int32)) + v1) * (3 : Int32)) + v2)
set_option maxHeartbeats 4000000 in
set_option maxRecDepth 200000 in
theorem t_S_stateOf (v0 : Int32) (v1 : Int32) (v2 : Int32) (h : MH) : Mt mi_S_stateOf 1 [.int v0, .int v1, .int v2] h (some (.int (f_S_stateOf v0 v1 v2))) h := by
  refine Mt.rt (lv := [(0, .int v0), (1, .int v1), (2, .int v2)]) (by decide +kernel) (by simp [lv_args, mj_rfc, mj_cti, mj_ctl]) (by simp [mj_rfc, mj_cti, mj_ctl]) ?_
  unfold f_S_stateOf
  refine rt_st (pc1 := 10) (fun _ _ B => go_iload_n 0 d_S_stateOf_0 rfl (go_bipush (v := (8 : Int32)) d_S_stateOf_1 (by decide) (go_imul d_S_stateOf_3 (go_iload_n 1 d_S_stateOf_4 rfl (go_iadd d_S_stateOf_5 (go_iconst (v := (3 : Int32)) d_S_stateOf_6 (by decide) (go_imul d_S_stateOf_7 (go_iload_n 2 d_S_stateOf_8 rfl (go_iadd d_S_stateOf_9 B))))))))) ?_
  exact rt_int d_S_stateOf_10 rfl
/-! WideTurn.Search.prepare(LWideTurn.Basin;I)V -/
def b_S_prepare_83 (F : Nat) : Nat → (Option Nat) → (Option Nat) → (Int32) → (MH) → (Option MH)
  | 0 => fun _ _ _ _ => none
  | n + 1 => fun v0 v1 v3 h => 
    if (192 : Int32) ≤ v3 then
      some h
    else
      Option.bind (gfr h v0 [6] 0) fun x2 =>
      Option.bind (onc h v1 1 (f_B_shallowest v1 (v3 / (8 : Int32)) (mj_irem v3 (8 : Int32)) h)) fun x4 =>
      Option.bind (f_C_put x2 v3 x4 h) fun h6 =>
      (b_S_prepare_83 F n) v0 v1 (v3 + (1 : Int32)) h6
def b_S_prepare_53 (F : Nat) : (Option Nat) → (Option Nat) → (Option Nat) → (Int32) → (Int32) → (Int32) → (MH) → (Option MH) := fun v0 v1 s0 s1 s2 s3 h => 
  Option.bind (pfv h s0 [6] 10 (.int (f_S_stateOf s1 s2 s3))) fun h1 =>
  Option.bind (pfv h1 v0 [6] 11 (.int (0 : Int32))) fun h3 =>
  Option.bind (gfr h3 v0 [6] 1) fun x5 =>
  Option.bind (f_J_fill F x5 (1000000 : Int32) h3) fun h7 =>
  Option.bind (gfr h7 v0 [6] 5) fun x9 =>
  Option.bind (f_J_fill F x9 (-1 : Int32) h7) fun h11 =>
  b_S_prepare_83 F F v0 v1 (0 : Int32) h11
def b_S_prepare_23 (F : Nat) : (Option Nat) → (Option Nat) → (Option Nat) → (Int32) → (MH) → (Option MH) := fun v0 v1 s0 s1 h => 
  Option.bind (pfv h s0 [6] 9 (.int s1)) fun h1 =>
  Option.bind (gfi h1 v1 [1] 3) fun x3 =>
  Option.bind (gfi h1 v1 [1] 4) fun x5 =>
  Option.bind (gfi h1 v0 [6] 9) fun x7 =>
  if x7 = (-1 : Int32) then
    b_S_prepare_53 F v0 v1 v0 x3 x5 (0 : Int32) h1
  else
    Option.bind (gfi h1 v1 [1] 6) fun x10 =>
    b_S_prepare_53 F v0 v1 v0 x3 x5 (mj_irem x10 (3 : Int32)) h1
def f_S_prepare (F : Nat) (v0 : Option Nat) (v1 : Option Nat) (v2 : Int32) (h : MH) : Option MH :=
  Option.bind (pfv h v0 [6] 8 (.int v2)) fun h1 =>
  Option.bind (onc h1 v1 1 (f_B_isBlown v1 h1)) fun x3 =>
  if x3 = 0 then
    b_S_prepare_23 F v0 v1 v0 (-1 : Int32) h1
  else
    Option.bind (gfi h1 v1 [1] 0) fun x6 =>
    b_S_prepare_23 F v0 v1 v0 (x6 - (1 : Int32)) h1
set_option maxHeartbeats 4000000 in
set_option maxRecDepth 200000 in
theorem p_S_prepare_83 (F : Nat) {h0 : MH} : ∀ (n : Nat) (v0 : Option Nat) (v1 : Option Nat) (v3 : Int32) (h : MH) (r : MH), b_S_prepare_83 F  n v0 v1 v3 h = some r → Rt mi_S_prepare 3 h0 83 [(0, va_rf v0), (1, va_rf v1), (3, .int v3)] [] h none r := by
  intro n
  induction n with
  | zero =>
    intro v0 v1 v3 h r hyp
    cases hyp
  | succ n ih =>
    intro v0 v1 v3 h r hyp
    unfold b_S_prepare_83 at hyp
    refine rt_st (pc1 := 87) (fun _ _ B => go_iload_n 2 d_S_prepare_83 rfl (go_sipush (v := (192 : Int32)) d_S_prepare_84 (by decide) B)) ?_
    by_cases c1 : (192 : Int32) ≤ v3
    · replace hyp := (if_pos c1).symm.trans hyp
      refine rt_st (pc1 := 116) (fun _ _ B => go_icmp_ge_t 116 d_S_prepare_87 rfl c1 B) ?_
      exact rt_eq0 hyp (rt_void d_S_prepare_116 rfl)
    · replace hyp := (if_neg c1).symm.trans hyp
      obtain ⟨x2, e3, hyp⟩ := Option.bind_eq_some_iff.mp hyp
      obtain ⟨x4, e5, hyp⟩ := Option.bind_eq_some_iff.mp hyp
      obtain ⟨h6, e7, hyp⟩ := Option.bind_eq_some_iff.mp hyp
      refine rt_st (pc1 := 83) (fun _ _ B => go_icmp_ge_f d_S_prepare_87 rfl c1 (go_aload_n 0 d_S_prepare_90 rfl (go_gfr d_S_prepare_91 fd_6_0 w160 e3 (go_iload_n 2 d_S_prepare_94 rfl (go_aload_n 1 d_S_prepare_95 rfl (go_iload_n 2 d_S_prepare_96 rfl (go_bipush (v := (8 : Int32)) d_S_prepare_97 (by decide) (go_idiv d_S_prepare_99 (by decide) (go_iload_n 2 d_S_prepare_100 rfl (go_bipush (v := (8 : Int32)) d_S_prepare_101 (by decide) (go_irem d_S_prepare_103 (by decide) (go_callV1 (q := q_1) (st := [.int v3, va_rf x2]) [.int (v3 / (8 : Int32)), .int (mj_irem v3 (8 : Int32))] (t_B_shallowest v1 (v3 / (8 : Int32)) (mj_irem v3 (8 : Int32)) h _ (onc_spec e5).2) mm_B_shallowest (by decide) d_S_prepare_104 (onc_spec e5).1 rfl rfl w714 w623 w624 rfl (Nat.le_of_ble_eq_true rfl) rfl (go_callSN0 (st := []) [va_rf x2, .int v3, .int x4] (t_C_put x2 v3 x4 h _ e7) mm_C_put (by decide) d_S_prepare_107 w715 w327 rfl (Nat.le_of_ble_eq_true rfl) rfl (go_iinc (v := (v3 + (1 : Int32))) (lv1 := [(3, .int (v3 + (1 : Int32))), (0, va_rf v0), (1, va_rf v1)]) 2 d_S_prepare_110 rfl rfl (by decide) rfl (go_goto 83 d_S_prepare_113 rfl B))))))))))))))) ?_
      refine rt_sub [1, 2, 0] (lv1 := [(0, va_rf v0), (1, va_rf v1), (3, .int (v3 + (1 : Int32)))]) rfl ?_
      exact ih _ _ _ _ _ hyp
set_option maxHeartbeats 4000000 in
set_option maxRecDepth 200000 in
theorem p_S_prepare_53 (F : Nat) {h0 : MH} (v0 : Option Nat) (v1 : Option Nat) (s0 : Option Nat) (s1 : Int32) (s2 : Int32) (s3 : Int32) (h : MH) (r : MH) : b_S_prepare_53 F  v0 v1 s0 s1 s2 s3 h = some r → Rt mi_S_prepare 3 h0 53 [(0, va_rf v0), (1, va_rf v1)] [.int s3, .int s2, .int s1, va_rf s0] h none r := by
  intro hyp
  unfold b_S_prepare_53 at hyp
  obtain ⟨h1, e2, hyp⟩ := Option.bind_eq_some_iff.mp hyp
  obtain ⟨h3, e4, hyp⟩ := Option.bind_eq_some_iff.mp hyp
  obtain ⟨x5, e6, hyp⟩ := Option.bind_eq_some_iff.mp hyp
  obtain ⟨h7, e8, hyp⟩ := Option.bind_eq_some_iff.mp hyp
  obtain ⟨x9, e10, hyp⟩ := Option.bind_eq_some_iff.mp hyp
  obtain ⟨h11, e12, hyp⟩ := Option.bind_eq_some_iff.mp hyp
  refine rt_st (pc1 := 83) (fun _ _ B => go_callS1 (st := [va_rf s0]) [.int s1, .int s2, .int s3] (t_S_stateOf s1 s2 s3 h) mm_S_stateOf (by decide) d_S_prepare_53 w709 w710 rfl (Nat.le_of_ble_eq_true rfl) rfl (go_pfi d_S_prepare_56 fd_6_10 w170 (fun q => by cases q) e2 (go_aload_n 0 d_S_prepare_59 rfl (go_iconst (v := (0 : Int32)) d_S_prepare_60 (by decide) (go_pfi d_S_prepare_61 fd_6_11 w171 (fun q => by cases q) e4 (go_aload_n 0 d_S_prepare_64 rfl (go_gfr d_S_prepare_65 fd_6_1 w161 e6 (go_ldc (v := (1000000 : Int32)) d_S_prepare_68 w712 (go_callS0 (st := []) [va_rf x5, .int (1000000 : Int32)] (t_J_fill F x5 (1000000 : Int32) h3 _ e8) mm_J_fill (by decide) d_S_prepare_70 w713 w85 rfl (Nat.le_of_ble_eq_true rfl) rfl (go_aload_n 0 d_S_prepare_73 rfl (go_gfr d_S_prepare_74 fd_6_5 w165 e10 (go_iconst (v := (-1 : Int32)) d_S_prepare_77 (by decide) (go_callS0 (st := []) [va_rf x9, .int (-1 : Int32)] (t_J_fill F x9 (-1 : Int32) h7 _ e12) mm_J_fill (by decide) d_S_prepare_78 w713 w85 rfl (Nat.le_of_ble_eq_true rfl) rfl (go_iconst (v := (0 : Int32)) d_S_prepare_81 (by decide) (go_istore_n (lv1 := [(3, .int (0 : Int32)), (0, va_rf v0), (1, va_rf v1)]) d_S_prepare_82 (by decide) rfl B))))))))))))))) ?_
  refine rt_sub [1, 2, 0] (lv1 := [(0, va_rf v0), (1, va_rf v1), (3, .int (0 : Int32))]) rfl ?_
  exact p_S_prepare_83 F F _ _ _ _ r hyp
set_option maxHeartbeats 4000000 in
set_option maxRecDepth 200000 in
theorem p_S_prepare_23 (F : Nat) {h0 : MH} (v0 : Option Nat) (v1 : Option Nat) (s0 : Option Nat) (s1 : Int32) (h : MH) (r : MH) : b_S_prepare_23 F  v0 v1 s0 s1 h = some r → Rt mi_S_prepare 3 h0 23 [(0, va_rf v0), (1, va_rf v1)] [.int s1, va_rf s0] h none r := by
  intro hyp
  unfold b_S_prepare_23 at hyp
  obtain ⟨h1, e2, hyp⟩ := Option.bind_eq_some_iff.mp hyp
  obtain ⟨x3, e4, hyp⟩ := Option.bind_eq_some_iff.mp hyp
  obtain ⟨x5, e6, hyp⟩ := Option.bind_eq_some_iff.mp hyp
  obtain ⟨x7, e8, hyp⟩ := Option.bind_eq_some_iff.mp hyp
  refine rt_st (pc1 := 40) (fun _ _ B => go_pfi d_S_prepare_23 fd_6_9 w169 (fun q => by cases q) e2 (go_aload_n 0 d_S_prepare_26 rfl (go_aload_n 1 d_S_prepare_27 rfl (go_gfi d_S_prepare_28 fd_1_3 w224 e4 (go_aload_n 1 d_S_prepare_31 rfl (go_gfi d_S_prepare_32 fd_1_4 w227 e6 (go_aload_n 0 d_S_prepare_35 rfl (go_gfi d_S_prepare_36 fd_6_9 w169 e8 (go_iconst (v := (-1 : Int32)) d_S_prepare_39 (by decide) B))))))))) ?_
  by_cases c9 : x7 = (-1 : Int32)
  · replace hyp := (if_pos c9).symm.trans hyp
    refine rt_st (pc1 := 53) (fun _ _ B => go_icmp_ne_f d_S_prepare_40 rfl c9 (go_iconst (v := (0 : Int32)) d_S_prepare_43 (by decide) (go_goto 53 d_S_prepare_44 rfl B))) ?_
    exact p_S_prepare_53 F _ _ _ _ _ _ _ r hyp
  · replace hyp := (if_neg c9).symm.trans hyp
    obtain ⟨x10, e11, hyp⟩ := Option.bind_eq_some_iff.mp hyp
    refine rt_st (pc1 := 53) (fun _ _ B => go_icmp_ne_t 47 d_S_prepare_40 rfl c9 (go_aload_n 1 d_S_prepare_47 rfl (go_gfi d_S_prepare_48 fd_1_6 w237 e11 (go_iconst (v := (3 : Int32)) d_S_prepare_51 (by decide) (go_irem d_S_prepare_52 (by decide) B))))) ?_
    exact p_S_prepare_53 F _ _ _ _ _ _ _ r hyp
set_option maxHeartbeats 4000000 in
set_option maxRecDepth 200000 in
theorem t_S_prepare (F : Nat) (v0 : Option Nat) (v1 : Option Nat) (v2 : Int32) (h : MH) (r : MH) (hyp : f_S_prepare F v0 v1 v2 h = some r) : Mt mi_S_prepare 3 [va_rf v0, va_rf v1, .int v2] h none r := by
  refine Mt.rt (lv := [(0, va_rf v0), (1, va_rf v1), (2, .int v2)]) (by decide +kernel) (by simp [lv_args, mj_rfc, mj_cti, mj_ctl]) (by simp [mj_rfc, mj_cti, mj_ctl]) ?_
  unfold f_S_prepare at hyp
  obtain ⟨h1, e2, hyp⟩ := Option.bind_eq_some_iff.mp hyp
  obtain ⟨x3, e4, hyp⟩ := Option.bind_eq_some_iff.mp hyp
  refine rt_st (pc1 := 10) (fun _ _ B => go_aload_n 0 d_S_prepare_0 rfl (go_iload_n 2 d_S_prepare_1 rfl (go_pfi d_S_prepare_2 fd_6_8 w168 (fun q => by cases q) e2 (go_aload_n 0 d_S_prepare_5 rfl (go_aload_n 1 d_S_prepare_6 rfl (go_callV1 (q := q_1) (st := [va_rf v0]) [] (t_B_isBlown v1 h1 _ (onc_spec e4).2) mm_B_isBlown (by decide) d_S_prepare_7 (onc_spec e4).1 rfl rfl w708 w644 w645 rfl (Nat.le_of_ble_eq_true rfl) rfl B)))))) ?_
  by_cases c5 : x3 = 0
  · replace hyp := (if_pos c5).symm.trans hyp
    refine rt_st (pc1 := 23) (fun _ _ B => go_if_eq_t 22 d_S_prepare_10 rfl c5 (go_iconst (v := (-1 : Int32)) d_S_prepare_22 (by decide) B)) ?_
    refine rt_sub [0, 1] (lv1 := [(0, va_rf v0), (1, va_rf v1)]) rfl ?_
    exact p_S_prepare_23 F _ _ _ _ _ r hyp
  · replace hyp := (if_neg c5).symm.trans hyp
    obtain ⟨x6, e7, hyp⟩ := Option.bind_eq_some_iff.mp hyp
    refine rt_st (pc1 := 23) (fun _ _ B => go_if_eq_f d_S_prepare_10 rfl c5 (go_aload_n 1 d_S_prepare_13 rfl (go_gfi d_S_prepare_14 fd_1_0 w215 e7 (go_iconst (v := (1 : Int32)) d_S_prepare_17 (by decide) (go_isub d_S_prepare_18 (go_goto 23 d_S_prepare_19 rfl B)))))) ?_
    refine rt_sub [0, 1] (lv1 := [(0, va_rf v0), (1, va_rf v1)]) rfl ?_
    exact p_S_prepare_23 F _ _ _ _ _ r hyp
/-! WideTurn.Search.choosePacers(LWideTurn.Basin;)V -/
def b_S_choosePacers_127 (F : Nat) (k11 : (Option Nat) → (Option Nat) → Int32 → MH → (Option MH)) : (Option Nat) → (Option Nat) → (Int32) → (MH) → (Option MH) := fun v0 v1 v2 h => 
  k11 v0 v1 (v2 + (1 : Int32)) h
def b_S_choosePacers_121 (F : Nat) (k11 : (Option Nat) → (Option Nat) → Int32 → MH → (Option MH)) (k28 : (Option Nat) → (Option Nat) → Int32 → (Option Nat) → Int32 → MH → (Option MH)) : (Option Nat) → (Option Nat) → (Int32) → (Option Nat) → (Int32) → (MH) → (Option MH) := fun v0 v1 v2 v3 v4 h => 
  k28 v0 v1 v2 v3 (v4 + (1 : Int32)) h
def b_S_choosePacers_100 (F : Nat) (k11 : (Option Nat) → (Option Nat) → Int32 → MH → (Option MH)) (k28 : (Option Nat) → (Option Nat) → Int32 → (Option Nat) → Int32 → MH → (Option MH)) : (Option Nat) → (Option Nat) → (Int32) → (Option Nat) → (Int32) → (Int32) → (Int32) → (MH) → (Option MH) := fun v0 v1 v2 v3 v4 v5 v6 h => 
  Option.bind (gfr h v0 [6] 6) fun x1 =>
  Option.bind (f_C_put x1 v6 v5 h) fun h3 =>
  Option.bind (gfr h3 v0 [6] 7) fun x5 =>
  Option.bind (f_C_put x5 v6 v2 h3) fun h7 =>
  b_S_choosePacers_121 F k11 k28 v0 v1 v2 v3 v4 h7
def b_S_choosePacers_63 (F : Nat) (k11 : (Option Nat) → (Option Nat) → Int32 → MH → (Option MH)) (k28 : (Option Nat) → (Option Nat) → Int32 → (Option Nat) → Int32 → MH → (Option MH)) : (Option Nat) → (Option Nat) → (Int32) → (Option Nat) → (Int32) → (Int32) → (Int32) → (MH) → (Option MH) := fun v0 v1 v2 v3 v4 v5 s0 h => 
  if v5 = (-1000000 : Int32) then
    b_S_choosePacers_121 F k11 k28 v0 v1 v2 v3 v4 h
  else
    Option.bind (gfr h v0 [6] 6) fun x2 =>
    Option.bind (f_C_at x2 s0 h) fun x4 =>
    if x4 = (-1000000 : Int32) then
      b_S_choosePacers_100 F k11 k28 v0 v1 v2 v3 v4 v5 s0 h
    else
      Option.bind (gfr h v0 [6] 6) fun x7 =>
      Option.bind (f_C_at x7 s0 h) fun x9 =>
      if x9 ≤ v5 then
        b_S_choosePacers_121 F k11 k28 v0 v1 v2 v3 v4 h
      else
        b_S_choosePacers_100 F k11 k28 v0 v1 v2 v3 v4 v5 s0 h
def b_S_choosePacers_28 (F : Nat) (k11 : (Option Nat) → (Option Nat) → Int32 → MH → (Option MH)) : Nat → (Option Nat) → (Option Nat) → (Int32) → (Option Nat) → (Int32) → (MH) → (Option MH)
  | 0 => fun _ _ _ _ _ _ => none
  | n + 1 => fun v0 v1 v2 v3 v4 h => 
    if (8 : Int32) ≤ v4 then
      b_S_choosePacers_127 F k11 v0 v1 v2 h
    else
      if v3 = none then
        b_S_choosePacers_127 F k11 v0 v1 v2 h
      else
        Option.bind (v_H_minutesFor v3 v4 h) fun x3 =>
        Option.bind (v_H_lift v3 h) fun x5 =>
        if x5 = 0 then
          b_S_choosePacers_63 F k11 (b_S_choosePacers_28 F k11 n) v0 v1 v2 v3 v4 x3 v4 h
        else
          b_S_choosePacers_63 F k11 (b_S_choosePacers_28 F k11 n) v0 v1 v2 v3 v4 x3 (v4 + (2 : Int32)) h
def b_S_choosePacers_11 (F : Nat) : Nat → (Option Nat) → (Option Nat) → (Int32) → (MH) → (Option MH)
  | 0 => fun _ _ _ _ => none
  | n + 1 => fun v0 v1 v2 h => 
    Option.bind (gfi h v1 [1] 8) fun x1 =>
    if x1 ≤ v2 then
      some h
    else
      Option.bind (onc h v1 1 (f_B_handAt v1 v2 h)) fun x4 =>
      b_S_choosePacers_28 F (b_S_choosePacers_11 F n) F v0 v1 v2 x4 (0 : Int32) h
def f_S_choosePacers (F : Nat) (v0 : Option Nat) (v1 : Option Nat) (h : MH) : Option MH :=
  Option.bind (gfr h v0 [6] 6) fun x1 =>
  Option.bind (f_J_fill F x1 (-1000000 : Int32) h) fun h3 =>
  b_S_choosePacers_11 F F v0 v1 (0 : Int32) h3
set_option maxHeartbeats 4000000 in
set_option maxRecDepth 200000 in
theorem p_S_choosePacers_127 (F : Nat) {h0 : MH} (k11 : (Option Nat) → (Option Nat) → Int32 → MH → (Option MH)) (hk11 : ∀ (v0 : Option Nat) (v1 : Option Nat) (v2 : Int32) (h : MH) (r : MH), k11 v0 v1 v2 h = some r → Rt mi_S_choosePacers 3 h0 11 [(0, va_rf v0), (1, va_rf v1), (2, .int v2)] [] h none r) (v0 : Option Nat) (v1 : Option Nat) (v2 : Int32) (h : MH) (r : MH) : b_S_choosePacers_127 F k11  v0 v1 v2 h = some r → Rt mi_S_choosePacers 3 h0 127 [(0, va_rf v0), (1, va_rf v1), (2, .int v2)] [] h none r := by
  intro hyp
  unfold b_S_choosePacers_127 at hyp
  refine rt_st (pc1 := 11) (fun _ _ B => go_iinc (v := (v2 + (1 : Int32))) (lv1 := [(2, .int (v2 + (1 : Int32))), (0, va_rf v0), (1, va_rf v1)]) 2 d_S_choosePacers_127 rfl rfl (by decide) (by first | (simp [mj_s1, mj_s2, mj_rfc, mj_cti, mj_ctl]; done) | (simp [mj_s1, mj_s2, mj_rfc, mj_cti, mj_ctl]; decide)) (go_goto 11 d_S_choosePacers_130 rfl B)) ?_
  refine rt_sub [1, 2, 0] (lv1 := [(0, va_rf v0), (1, va_rf v1), (2, .int (v2 + (1 : Int32)))]) rfl ?_
  exact hk11 _ _ _ _ _ hyp
set_option maxHeartbeats 4000000 in
set_option maxRecDepth 200000 in
theorem p_S_choosePacers_121 (F : Nat) {h0 : MH} (k11 : (Option Nat) → (Option Nat) → Int32 → MH → (Option MH)) (k28 : (Option Nat) → (Option Nat) → Int32 → (Option Nat) → Int32 → MH → (Option MH)) (hk11 : ∀ (v0 : Option Nat) (v1 : Option Nat) (v2 : Int32) (h : MH) (r : MH), k11 v0 v1 v2 h = some r → Rt mi_S_choosePacers 3 h0 11 [(0, va_rf v0), (1, va_rf v1), (2, .int v2)] [] h none r) (hk28 : ∀ (v0 : Option Nat) (v1 : Option Nat) (v2 : Int32) (v3 : Option Nat) (v4 : Int32) (h : MH) (r : MH), k28 v0 v1 v2 v3 v4 h = some r → Rt mi_S_choosePacers 3 h0 28 [(0, va_rf v0), (1, va_rf v1), (2, .int v2), (3, va_rf v3), (4, .int v4)] [] h none r) (v0 : Option Nat) (v1 : Option Nat) (v2 : Int32) (v3 : Option Nat) (v4 : Int32) (h : MH) (r : MH) : b_S_choosePacers_121 F k11 k28  v0 v1 v2 v3 v4 h = some r → Rt mi_S_choosePacers 3 h0 121 [(0, va_rf v0), (1, va_rf v1), (2, .int v2), (3, va_rf v3), (4, .int v4)] [] h none r := by
  intro hyp
  unfold b_S_choosePacers_121 at hyp
  refine rt_st (pc1 := 28) (fun _ _ B => go_iinc (v := (v4 + (1 : Int32))) (lv1 := [(4, .int (v4 + (1 : Int32))), (0, va_rf v0), (1, va_rf v1), (2, .int v2), (3, va_rf v3)]) 4 d_S_choosePacers_121 rfl rfl (by decide) (by first | (simp [mj_s1, mj_s2, mj_rfc, mj_cti, mj_ctl]; done) | (simp [mj_s1, mj_s2, mj_rfc, mj_cti, mj_ctl]; decide)) (go_goto 28 d_S_choosePacers_124 rfl B)) ?_
  refine rt_sub [1, 2, 3, 4, 0] (lv1 := [(0, va_rf v0), (1, va_rf v1), (2, .int v2), (3, va_rf v3), (4, .int (v4 + (1 : Int32)))]) rfl ?_
  exact hk28 _ _ _ _ _ _ _ hyp
set_option maxHeartbeats 4000000 in
set_option maxRecDepth 200000 in
theorem p_S_choosePacers_100 (F : Nat) {h0 : MH} (k11 : (Option Nat) → (Option Nat) → Int32 → MH → (Option MH)) (k28 : (Option Nat) → (Option Nat) → Int32 → (Option Nat) → Int32 → MH → (Option MH)) (hk11 : ∀ (v0 : Option Nat) (v1 : Option Nat) (v2 : Int32) (h : MH) (r : MH), k11 v0 v1 v2 h = some r → Rt mi_S_choosePacers 3 h0 11 [(0, va_rf v0), (1, va_rf v1), (2, .int v2)] [] h none r) (hk28 : ∀ (v0 : Option Nat) (v1 : Option Nat) (v2 : Int32) (v3 : Option Nat) (v4 : Int32) (h : MH) (r : MH), k28 v0 v1 v2 v3 v4 h = some r → Rt mi_S_choosePacers 3 h0 28 [(0, va_rf v0), (1, va_rf v1), (2, .int v2), (3, va_rf v3), (4, .int v4)] [] h none r) (v0 : Option Nat) (v1 : Option Nat) (v2 : Int32) (v3 : Option Nat) (v4 : Int32) (v5 : Int32) (v6 : Int32) (h : MH) (r : MH) : b_S_choosePacers_100 F k11 k28  v0 v1 v2 v3 v4 v5 v6 h = some r → Rt mi_S_choosePacers 3 h0 100 [(0, va_rf v0), (1, va_rf v1), (2, .int v2), (3, va_rf v3), (4, .int v4), (5, .int v5), (6, .int v6)] [] h none r := by
  intro hyp
  unfold b_S_choosePacers_100 at hyp
  obtain ⟨x1, e2, hyp⟩ := Option.bind_eq_some_iff.mp hyp
  obtain ⟨h3, e4, hyp⟩ := Option.bind_eq_some_iff.mp hyp
  obtain ⟨x5, e6, hyp⟩ := Option.bind_eq_some_iff.mp hyp
  obtain ⟨h7, e8, hyp⟩ := Option.bind_eq_some_iff.mp hyp
  refine rt_st (pc1 := 121) (fun _ _ B => go_aload_n 0 d_S_choosePacers_100 rfl (go_gfr d_S_choosePacers_101 fd_6_6 w166 e2 (go_iload 6 d_S_choosePacers_104 rfl (go_iload 5 d_S_choosePacers_106 rfl (go_callSN0 (st := []) [va_rf x1, .int v6, .int v5] (t_C_put x1 v6 v5 h _ e4) mm_C_put (by decide) d_S_choosePacers_108 w715 w327 rfl (Nat.le_of_ble_eq_true rfl) rfl (go_aload_n 0 d_S_choosePacers_111 rfl (go_gfr d_S_choosePacers_112 fd_6_7 w167 e6 (go_iload 6 d_S_choosePacers_115 rfl (go_iload_n 2 d_S_choosePacers_117 rfl (go_callSN0 (st := []) [va_rf x5, .int v6, .int v2] (t_C_put x5 v6 v2 h3 _ e8) mm_C_put (by decide) d_S_choosePacers_118 w715 w327 rfl (Nat.le_of_ble_eq_true rfl) rfl B)))))))))) ?_
  refine rt_sub [0, 1, 2, 3, 4] (lv1 := [(0, va_rf v0), (1, va_rf v1), (2, .int v2), (3, va_rf v3), (4, .int v4)]) rfl ?_
  exact p_S_choosePacers_121 F k11 k28 hk11 hk28 _ _ _ _ _ _ r hyp
set_option maxHeartbeats 4000000 in
set_option maxRecDepth 200000 in
theorem p_S_choosePacers_63 (F : Nat) {h0 : MH} (k11 : (Option Nat) → (Option Nat) → Int32 → MH → (Option MH)) (k28 : (Option Nat) → (Option Nat) → Int32 → (Option Nat) → Int32 → MH → (Option MH)) (hk11 : ∀ (v0 : Option Nat) (v1 : Option Nat) (v2 : Int32) (h : MH) (r : MH), k11 v0 v1 v2 h = some r → Rt mi_S_choosePacers 3 h0 11 [(0, va_rf v0), (1, va_rf v1), (2, .int v2)] [] h none r) (hk28 : ∀ (v0 : Option Nat) (v1 : Option Nat) (v2 : Int32) (v3 : Option Nat) (v4 : Int32) (h : MH) (r : MH), k28 v0 v1 v2 v3 v4 h = some r → Rt mi_S_choosePacers 3 h0 28 [(0, va_rf v0), (1, va_rf v1), (2, .int v2), (3, va_rf v3), (4, .int v4)] [] h none r) (v0 : Option Nat) (v1 : Option Nat) (v2 : Int32) (v3 : Option Nat) (v4 : Int32) (v5 : Int32) (s0 : Int32) (h : MH) (r : MH) : b_S_choosePacers_63 F k11 k28  v0 v1 v2 v3 v4 v5 s0 h = some r → Rt mi_S_choosePacers 3 h0 63 [(0, va_rf v0), (1, va_rf v1), (2, .int v2), (3, va_rf v3), (4, .int v4), (5, .int v5)] [.int s0] h none r := by
  intro hyp
  unfold b_S_choosePacers_63 at hyp
  refine rt_st (pc1 := 69) (fun _ _ B => go_istore (lv1 := [(6, .int s0), (0, va_rf v0), (1, va_rf v1), (2, .int v2), (3, va_rf v3), (4, .int v4), (5, .int v5)]) d_S_choosePacers_63 (by decide) rfl (go_iload 6 d_S_choosePacers_65 rfl (go_ldc (v := (-1000000 : Int32)) d_S_choosePacers_67 w720 B))) ?_
  by_cases c1 : v5 = (-1000000 : Int32)
  · replace hyp := (if_pos c1).symm.trans hyp
    refine rt_st (pc1 := 121) (fun _ _ B => go_icmp_eq_t 121 d_S_choosePacers_69 rfl c1 B) ?_
    refine rt_sub [1, 2, 3, 4, 5] (lv1 := [(0, va_rf v0), (1, va_rf v1), (2, .int v2), (3, va_rf v3), (4, .int v4)]) rfl ?_
    exact p_S_choosePacers_121 F k11 k28 hk11 hk28 _ _ _ _ _ _ r hyp
  · replace hyp := (if_neg c1).symm.trans hyp
    obtain ⟨x2, e3, hyp⟩ := Option.bind_eq_some_iff.mp hyp
    obtain ⟨x4, e5, hyp⟩ := Option.bind_eq_some_iff.mp hyp
    refine rt_st (pc1 := 83) (fun _ _ B => go_icmp_eq_f d_S_choosePacers_69 rfl c1 (go_aload_n 1 d_S_choosePacers_72 rfl (go_gfr d_S_choosePacers_73 fd_6_6 w166 e3 (go_iload 0 d_S_choosePacers_76 rfl (go_callSN1 (st := []) [va_rf x2, .int s0] (t_C_at x2 s0 h _ e5) mm_C_at (by decide) d_S_choosePacers_78 w724 w343 rfl (Nat.le_of_ble_eq_true rfl) rfl (go_ldc (v := (-1000000 : Int32)) d_S_choosePacers_81 w720 B)))))) ?_
    by_cases c6 : x4 = (-1000000 : Int32)
    · replace hyp := (if_pos c6).symm.trans hyp
      refine rt_st (pc1 := 100) (fun _ _ B => go_icmp_eq_t 100 d_S_choosePacers_83 rfl c6 B) ?_
      refine rt_sub [1, 2, 3, 4, 5, 6, 0] (lv1 := [(0, va_rf v0), (1, va_rf v1), (2, .int v2), (3, va_rf v3), (4, .int v4), (5, .int v5), (6, .int s0)]) rfl ?_
      exact p_S_choosePacers_100 F k11 k28 hk11 hk28 _ _ _ _ _ _ _ _ r hyp
    · replace hyp := (if_neg c6).symm.trans hyp
      obtain ⟨x7, e8, hyp⟩ := Option.bind_eq_some_iff.mp hyp
      obtain ⟨x9, e10, hyp⟩ := Option.bind_eq_some_iff.mp hyp
      refine rt_st (pc1 := 97) (fun _ _ B => go_icmp_eq_f d_S_choosePacers_83 rfl c6 (go_iload 6 d_S_choosePacers_86 rfl (go_aload_n 1 d_S_choosePacers_88 rfl (go_gfr d_S_choosePacers_89 fd_6_6 w166 e8 (go_iload 0 d_S_choosePacers_92 rfl (go_callSN1 (st := [.int v5]) [va_rf x7, .int s0] (t_C_at x7 s0 h _ e10) mm_C_at (by decide) d_S_choosePacers_94 w724 w343 rfl (Nat.le_of_ble_eq_true rfl) rfl B)))))) ?_
      by_cases c11 : x9 ≤ v5
      · replace hyp := (if_pos c11).symm.trans hyp
        refine rt_st (pc1 := 121) (fun _ _ B => go_icmp_ge_t 121 d_S_choosePacers_97 rfl c11 B) ?_
        refine rt_sub [1, 2, 3, 4, 5] (lv1 := [(0, va_rf v0), (1, va_rf v1), (2, .int v2), (3, va_rf v3), (4, .int v4)]) rfl ?_
        exact p_S_choosePacers_121 F k11 k28 hk11 hk28 _ _ _ _ _ _ r hyp
      · replace hyp := (if_neg c11).symm.trans hyp
        refine rt_st (pc1 := 100) (fun _ _ B => go_icmp_ge_f d_S_choosePacers_97 rfl c11 B) ?_
        refine rt_sub [1, 2, 3, 4, 5, 6, 0] (lv1 := [(0, va_rf v0), (1, va_rf v1), (2, .int v2), (3, va_rf v3), (4, .int v4), (5, .int v5), (6, .int s0)]) rfl ?_
        exact p_S_choosePacers_100 F k11 k28 hk11 hk28 _ _ _ _ _ _ _ _ r hyp
set_option maxHeartbeats 4000000 in
set_option maxRecDepth 200000 in
theorem vs_S_choosePacers_42 {h0 : MH} (h : MH) {o : Option Nat} {a0 : Int32} {pc2 : Nat} {lv lv2 : List (Nat × Value)} {st st2 : List Value} {h2 : MH} {x : Int32} (e : v_H_minutesFor o a0 h = some x) (hst : st.length ≤ 4) (B : Go mi_S_choosePacers 3 h0 (42 + 3) lv (.int x :: st) h pc2 lv2 st2 h2) : Go mi_S_choosePacers 3 h0 42 lv (.int a0 :: va_rf o :: st) h pc2 lv2 st2 h2 := by
  unfold v_H_minutesFor at e
  by_cases c2 : cls h o = some 2
  · replace e := (if_pos c2).symm.trans e
    exact go_callU1 (q := q_2) [.int a0] (t_H_minutesFor o a0 h _ e) mm_H_minutesFor (by decide) d_S_choosePacers_42 c2 rfl w722 w593 (Or.inr w601) (by decide +kernel) w594 w592 rfl hst rfl B
  replace e := (if_neg c2).symm.trans e
  by_cases c3 : cls h o = some 3
  · replace e := (if_pos c3).symm.trans e
    exact go_callU1 (q := q_3) [.int a0] (t_H_minutesFor o a0 h _ e) mm_H_minutesFor (by decide) d_S_choosePacers_42 c3 rfl w722 w593 (Or.inr w601) (by decide +kernel) w595 w592 rfl hst rfl B
  replace e := (if_neg c3).symm.trans e
  by_cases c4 : cls h o = some 4
  · replace e := (if_pos c4).symm.trans e
    exact go_callU1 (q := q_4) [.int a0] (t_Ro_minutesFor o a0 h _ e) mm_Ro_minutesFor (by decide) d_S_choosePacers_42 c4 rfl w722 w593 (Or.inr w601) (by decide +kernel) w596 w597 rfl hst rfl B
  replace e := (if_neg c4).symm.trans e
  by_cases c7 : cls h o = some 7
  · replace e := (if_pos c7).symm.trans e
    exact go_callU1 (q := q_7) [.int a0] (t_H_minutesFor o a0 h _ e) mm_H_minutesFor (by decide) d_S_choosePacers_42 c7 rfl w722 w593 (Or.inr w601) (by decide +kernel) w603 w592 rfl hst rfl B
  replace e := (if_neg c7).symm.trans e
  by_cases c8 : cls h o = some 8
  · replace e := (if_pos c8).symm.trans e
    exact go_callU1 (q := q_8) [.int a0] (t_H_minutesFor o a0 h _ e) mm_H_minutesFor (by decide) d_S_choosePacers_42 c8 rfl w722 w593 (Or.inr w601) (by decide +kernel) w604 w592 rfl hst rfl B
  replace e := (if_neg c8).symm.trans e
  cases e
set_option maxHeartbeats 4000000 in
set_option maxRecDepth 200000 in
theorem vs_S_choosePacers_48 {h0 : MH} (h : MH) {o : Option Nat} {pc2 : Nat} {lv lv2 : List (Nat × Value)} {st st2 : List Value} {h2 : MH} {x : Int32} (e : v_H_lift o h = some x) (hst : st.length ≤ 4) (B : Go mi_S_choosePacers 3 h0 (48 + 3) lv (.int x :: st) h pc2 lv2 st2 h2) : Go mi_S_choosePacers 3 h0 48 lv (va_rf o :: st) h pc2 lv2 st2 h2 := by
  unfold v_H_lift at e
  by_cases c2 : cls h o = some 2
  · replace e := (if_pos c2).symm.trans e
    cases e
    exact go_callU1 (q := q_2) [] (t_Lf_lift o h) mm_Lf_lift (by decide) d_S_choosePacers_48 c2 rfl w723 w581 (Or.inl ⟨_, _, _, w580, w589⟩) (by decide +kernel) w582 w583 rfl hst rfl B
  replace e := (if_neg c2).symm.trans e
  by_cases c3 : cls h o = some 3
  · replace e := (if_pos c3).symm.trans e
    cases e
    exact go_callU1 (q := q_3) [] (t_H_lift o h) mm_H_lift (by decide) d_S_choosePacers_48 c3 rfl w723 w581 (Or.inl ⟨_, _, _, w580, w589⟩) (by decide +kernel) w585 w580 rfl hst rfl B
  replace e := (if_neg c3).symm.trans e
  by_cases c4 : cls h o = some 4
  · replace e := (if_pos c4).symm.trans e
    cases e
    exact go_callU1 (q := q_4) [] (t_H_lift o h) mm_H_lift (by decide) d_S_choosePacers_48 c4 rfl w723 w581 (Or.inl ⟨_, _, _, w580, w589⟩) (by decide +kernel) w586 w580 rfl hst rfl B
  replace e := (if_neg c4).symm.trans e
  by_cases c7 : cls h o = some 7
  · replace e := (if_pos c7).symm.trans e
    cases e
    exact go_callU1 (q := q_7) [] (t_H_lift o h) mm_H_lift (by decide) d_S_choosePacers_48 c7 rfl w723 w581 (Or.inl ⟨_, _, _, w580, w589⟩) (by decide +kernel) w587 w580 rfl hst rfl B
  replace e := (if_neg c7).symm.trans e
  by_cases c8 : cls h o = some 8
  · replace e := (if_pos c8).symm.trans e
    cases e
    exact go_callU1 (q := q_8) [] (t_H_lift o h) mm_H_lift (by decide) d_S_choosePacers_48 c8 rfl w723 w581 (Or.inl ⟨_, _, _, w580, w589⟩) (by decide +kernel) w588 w580 rfl hst rfl B
  replace e := (if_neg c8).symm.trans e
  cases e
set_option maxHeartbeats 4000000 in
set_option maxRecDepth 200000 in
theorem p_S_choosePacers_28 (F : Nat) {h0 : MH} (k11 : (Option Nat) → (Option Nat) → Int32 → MH → (Option MH)) (hk11 : ∀ (v0 : Option Nat) (v1 : Option Nat) (v2 : Int32) (h : MH) (r : MH), k11 v0 v1 v2 h = some r → Rt mi_S_choosePacers 3 h0 11 [(0, va_rf v0), (1, va_rf v1), (2, .int v2)] [] h none r) : ∀ (n : Nat) (v0 : Option Nat) (v1 : Option Nat) (v2 : Int32) (v3 : Option Nat) (v4 : Int32) (h : MH) (r : MH), b_S_choosePacers_28 F k11  n v0 v1 v2 v3 v4 h = some r → Rt mi_S_choosePacers 3 h0 28 [(0, va_rf v0), (1, va_rf v1), (2, .int v2), (3, va_rf v3), (4, .int v4)] [] h none r := by
  intro n
  induction n with
  | zero =>
    intro v0 v1 v2 v3 v4 h r hyp
    cases hyp
  | succ n ih =>
    intro v0 v1 v2 v3 v4 h r hyp
    unfold b_S_choosePacers_28 at hyp
    refine rt_st (pc1 := 32) (fun _ _ B => go_iload 4 d_S_choosePacers_28 rfl (go_bipush (v := (8 : Int32)) d_S_choosePacers_30 (by decide) B)) ?_
    by_cases c1 : (8 : Int32) ≤ v4
    · replace hyp := (if_pos c1).symm.trans hyp
      refine rt_st (pc1 := 127) (fun _ _ B => go_icmp_ge_t 127 d_S_choosePacers_32 rfl c1 B) ?_
      refine rt_sub [0, 1, 2] (lv1 := [(0, va_rf v0), (1, va_rf v1), (2, .int v2)]) rfl ?_
      exact p_S_choosePacers_127 F k11 hk11 _ _ _ _ r hyp
    · replace hyp := (if_neg c1).symm.trans hyp
      refine rt_st (pc1 := 36) (fun _ _ B => go_icmp_ge_f d_S_choosePacers_32 rfl c1 (go_aload_n 3 d_S_choosePacers_35 rfl B)) ?_
      by_cases c2 : v3 = none
      · replace hyp := (if_pos c2).symm.trans hyp
        refine rt_st (pc1 := 127) (fun _ _ B => go_ifnull_t 127 d_S_choosePacers_36 rfl c2 B) ?_
        refine rt_sub [0, 1, 2] (lv1 := [(0, va_rf v0), (1, va_rf v1), (2, .int v2)]) rfl ?_
        exact p_S_choosePacers_127 F k11 hk11 _ _ _ _ r hyp
      · replace hyp := (if_neg c2).symm.trans hyp
        obtain ⟨x3, e4, hyp⟩ := Option.bind_eq_some_iff.mp hyp
        obtain ⟨x5, e6, hyp⟩ := Option.bind_eq_some_iff.mp hyp
        refine rt_st (pc1 := 51) (fun _ _ B => go_ifnull_f d_S_choosePacers_36 rfl c2 (go_aload_n 3 d_S_choosePacers_39 rfl (go_iload 4 d_S_choosePacers_40 rfl (vs_S_choosePacers_42 h (st := []) e4 (Nat.le_of_ble_eq_true rfl) (go_istore (lv1 := [(5, .int x3), (0, va_rf v0), (1, va_rf v1), (2, .int v2), (3, va_rf v3), (4, .int v4)]) d_S_choosePacers_45 (by decide) rfl (go_aload_n 4 d_S_choosePacers_47 rfl (vs_S_choosePacers_48 h (st := []) e6 (Nat.le_of_ble_eq_true rfl) B))))))) ?_
        by_cases c7 : x5 = 0
        · replace hyp := (if_pos c7).symm.trans hyp
          refine rt_st (pc1 := 63) (fun _ _ B => go_if_ne_f d_S_choosePacers_51 rfl c7 (go_iload 5 d_S_choosePacers_54 rfl (go_goto 63 d_S_choosePacers_56 rfl B))) ?_
          refine rt_sub [1, 2, 3, 4, 5, 0] (lv1 := [(0, va_rf v0), (1, va_rf v1), (2, .int v2), (3, va_rf v3), (4, .int v4), (5, .int x3)]) rfl ?_
          exact p_S_choosePacers_63 F k11 (b_S_choosePacers_28 F k11 n) hk11 (fun a0 a1 a2 a3 a4 a5 r hyp => ih a0 a1 a2 a3 a4 a5 r hyp) _ _ _ _ _ _ _ _ r hyp
        · replace hyp := (if_neg c7).symm.trans hyp
          refine rt_st (pc1 := 63) (fun _ _ B => go_if_ne_t 59 d_S_choosePacers_51 rfl c7 (go_iload 5 d_S_choosePacers_59 rfl (go_iconst (v := (2 : Int32)) d_S_choosePacers_61 (by decide) (go_iadd d_S_choosePacers_62 B)))) ?_
          refine rt_sub [1, 2, 3, 4, 5, 0] (lv1 := [(0, va_rf v0), (1, va_rf v1), (2, .int v2), (3, va_rf v3), (4, .int v4), (5, .int x3)]) rfl ?_
          exact p_S_choosePacers_63 F k11 (b_S_choosePacers_28 F k11 n) hk11 (fun a0 a1 a2 a3 a4 a5 r hyp => ih a0 a1 a2 a3 a4 a5 r hyp) _ _ _ _ _ _ _ _ r hyp
set_option maxHeartbeats 4000000 in
set_option maxRecDepth 200000 in
theorem p_S_choosePacers_11 (F : Nat) {h0 : MH} : ∀ (n : Nat) (v0 : Option Nat) (v1 : Option Nat) (v2 : Int32) (h : MH) (r : MH), b_S_choosePacers_11 F  n v0 v1 v2 h = some r → Rt mi_S_choosePacers 3 h0 11 [(0, va_rf v0), (1, va_rf v1), (2, .int v2)] [] h none r := by
  intro n
  induction n with
  | zero =>
    intro v0 v1 v2 h r hyp
    cases hyp
  | succ n ih =>
    intro v0 v1 v2 h r hyp
    unfold b_S_choosePacers_11 at hyp
    obtain ⟨x1, e2, hyp⟩ := Option.bind_eq_some_iff.mp hyp
    refine rt_st (pc1 := 16) (fun _ _ B => go_iload_n 2 d_S_choosePacers_11 rfl (go_aload_n 1 d_S_choosePacers_12 rfl (go_gfi d_S_choosePacers_13 fd_1_8 w245 e2 B))) ?_
    by_cases c3 : x1 ≤ v2
    · replace hyp := (if_pos c3).symm.trans hyp
      refine rt_st (pc1 := 133) (fun _ _ B => go_icmp_ge_t 133 d_S_choosePacers_16 rfl c3 B) ?_
      exact rt_eq0 hyp (rt_void d_S_choosePacers_133 rfl)
    · replace hyp := (if_neg c3).symm.trans hyp
      obtain ⟨x4, e5, hyp⟩ := Option.bind_eq_some_iff.mp hyp
      refine rt_st (pc1 := 28) (fun _ _ B => go_icmp_ge_f d_S_choosePacers_16 rfl c3 (go_aload_n 1 d_S_choosePacers_19 rfl (go_iload_n 2 d_S_choosePacers_20 rfl (go_callV1 (q := q_1) (st := []) [.int v2] (t_B_handAt v1 v2 h _ (onc_spec e5).2) mm_B_handAt (by decide) d_S_choosePacers_21 (onc_spec e5).1 rfl rfl w721 w568 w569 rfl (Nat.le_of_ble_eq_true rfl) rfl (go_astore_n (lv1 := [(3, va_rf x4), (0, va_rf v0), (1, va_rf v1), (2, .int v2)]) d_S_choosePacers_24 (by decide) rfl (go_iconst (v := (0 : Int32)) d_S_choosePacers_25 (by decide) (go_istore (lv1 := [(4, .int (0 : Int32)), (3, va_rf x4), (0, va_rf v0), (1, va_rf v1), (2, .int v2)]) d_S_choosePacers_26 (by decide) (by first | (simp [mj_s1, mj_s2, mj_rfc, mj_cti, mj_ctl]; done) | (simp [mj_s1, mj_s2, mj_rfc, mj_cti, mj_ctl]; decide)) B))))))) ?_
      refine rt_sub [2, 3, 4, 1, 0] (lv1 := [(0, va_rf v0), (1, va_rf v1), (2, .int v2), (3, va_rf x4), (4, .int (0 : Int32))]) rfl ?_
      exact p_S_choosePacers_28 F (b_S_choosePacers_11 F n) (fun a0 a1 a2 a3 r hyp => ih a0 a1 a2 a3 r hyp) F _ _ _ _ _ _ r hyp
set_option maxHeartbeats 4000000 in
set_option maxRecDepth 200000 in
theorem t_S_choosePacers (F : Nat) (v0 : Option Nat) (v1 : Option Nat) (h : MH) (r : MH) (hyp : f_S_choosePacers F v0 v1 h = some r) : Mt mi_S_choosePacers 3 [va_rf v0, va_rf v1] h none r := by
  refine Mt.rt (lv := [(0, va_rf v0), (1, va_rf v1)]) (by decide +kernel) (by simp [lv_args, mj_rfc, mj_cti, mj_ctl]) (by simp [mj_rfc, mj_cti, mj_ctl]) ?_
  unfold f_S_choosePacers at hyp
  obtain ⟨x1, e2, hyp⟩ := Option.bind_eq_some_iff.mp hyp
  obtain ⟨h3, e4, hyp⟩ := Option.bind_eq_some_iff.mp hyp
  refine rt_st (pc1 := 11) (fun _ _ B => go_aload_n 0 d_S_choosePacers_0 rfl (go_gfr d_S_choosePacers_1 fd_6_6 w166 e2 (go_ldc (v := (-1000000 : Int32)) d_S_choosePacers_4 w720 (go_callS0 (st := []) [va_rf x1, .int (-1000000 : Int32)] (t_J_fill F x1 (-1000000 : Int32) h _ e4) mm_J_fill (by decide) d_S_choosePacers_6 w713 w85 rfl (Nat.le_of_ble_eq_true rfl) rfl (go_iconst (v := (0 : Int32)) d_S_choosePacers_9 (by decide) (go_istore_n (lv1 := [(2, .int (0 : Int32)), (0, va_rf v0), (1, va_rf v1)]) d_S_choosePacers_10 (by decide) (by first | (simp [mj_s1, mj_s2, mj_rfc, mj_cti, mj_ctl]; done) | (simp [mj_s1, mj_s2, mj_rfc, mj_cti, mj_ctl]; decide)) B)))))) ?_
  refine rt_sub [1, 2, 0] (lv1 := [(0, va_rf v0), (1, va_rf v1), (2, .int (0 : Int32))]) rfl ?_
  exact p_S_choosePacers_11 F F _ _ _ _ r hyp
