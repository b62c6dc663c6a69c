/-! WideTurn.plan(IIII)I -/
def f_C_plan (F : Nat) (v0 : Option Nat) (v1 : Int32) (v2 : Int32) (v3 : Int32) (v4 : Int32) (h : MH) : Option (Int32 × MH) :=
  Option.bind (gfi h v0 [10] 8) fun x1 =>
  if x1 = 0 then
    some ((-1000002 : Int32), h)
  else
    if (f_C_isRow v1) = 0 then
      some ((-1000001 : Int32), h)
    else
      if v3 < 0 then
        some ((-1000001 : Int32), h)
      else
        if (40 : Int32) < v3 then
          some ((-1000001 : Int32), h)
        else
          if (f_C_within v4 (2 : Int32)) = 0 then
            some ((-1000001 : Int32), h)
          else
            Option.bind (onc h v0 10 (f_C_findingAt v0 v1 v2 v3 h)) fun x8 =>
            if x8 = 0 then
              Option.bind (onc h v0 10 (f_C_planned F v0 v1 v2 v3 v4 h)) fun x11 =>
              Option.bind (onc x11.2 v0 10 (f_C_sound v0 x11.1 x11.2)) fun x13 =>
              some (x13.1, x13.2)
            else
              Option.bind (onc h v0 10 (f_C_found v0 x8 h)) fun x15 =>
              some (x15.1, x15.2)
set_option maxHeartbeats 4000000 in
set_option maxRecDepth 200000 in
theorem t_C_plan (F : Nat) (v0 : Option Nat) (v1 : Int32) (v2 : Int32) (v3 : Int32) (v4 : Int32) (h : MH) (r : (Int32 × MH)) (hyp : f_C_plan F v0 v1 v2 v3 v4 h = some r) : Mt mi_C_plan 5 [va_rf v0, .int v1, .int v2, .int v3, .int v4] h (some (.int r.1)) r.2 := by
  refine Mt.rt (lv := [(0, va_rf v0), (1, .int v1), (2, .int v2), (3, .int v3), (4, .int v4)]) (by decide +kernel) (by simp [lv_args, mj_rfc, mj_cti, mj_ctl]) (by simp [mj_rfc, mj_cti, mj_ctl]) ?_
  unfold f_C_plan at hyp
  obtain ⟨x1, e2, hyp⟩ := Option.bind_eq_some_iff.mp hyp
  refine rt_st (pc1 := 4) (fun _ _ B => go_aload_n 0 d_C_plan_0 rfl (go_gfi d_C_plan_1 fd_10_8 w283 e2 B)) ?_
  by_cases c3 : x1 = 0
  · replace hyp := (if_pos c3).symm.trans hyp
    refine rt_st (pc1 := 9) (fun _ _ B => go_if_ne_f d_C_plan_4 rfl c3 (go_ldc (v := (-1000002 : Int32)) d_C_plan_7 w552 B)) ?_
    exact rt_eqW Value.int hyp (rt_int d_C_plan_9 rfl)
  · replace hyp := (if_neg c3).symm.trans hyp
    refine rt_st (pc1 := 14) (fun _ _ B => go_if_ne_t 10 d_C_plan_4 rfl c3 (go_iload_n 1 d_C_plan_10 rfl (go_callS1 (st := []) [.int v1] (t_C_isRow v1 h) mm_C_isRow (by decide) d_C_plan_11 w310 w311 rfl (Nat.le_of_ble_eq_true rfl) rfl B))) ?_
    by_cases c4 : (f_C_isRow v1) = 0
    · replace hyp := (if_pos c4).symm.trans hyp
      refine rt_st (pc1 := 38) (fun _ _ B => go_if_eq_t 36 d_C_plan_14 rfl c4 (go_ldc (v := (-1000001 : Int32)) d_C_plan_36 w316 B)) ?_
      exact rt_eqW Value.int hyp (rt_int d_C_plan_38 rfl)
    · replace hyp := (if_neg c4).symm.trans hyp
      refine rt_st (pc1 := 18) (fun _ _ B => go_if_eq_f d_C_plan_14 rfl c4 (go_iload_n 3 d_C_plan_17 rfl B)) ?_
      by_cases c5 : v3 < 0
      · replace hyp := (if_pos c5).symm.trans hyp
        refine rt_st (pc1 := 38) (fun _ _ B => go_if_lt_t 36 d_C_plan_18 rfl c5 (go_ldc (v := (-1000001 : Int32)) d_C_plan_36 w316 B)) ?_
        exact rt_eqW Value.int hyp (rt_int d_C_plan_38 rfl)
      · replace hyp := (if_neg c5).symm.trans hyp
        refine rt_st (pc1 := 24) (fun _ _ B => go_if_lt_f d_C_plan_18 rfl c5 (go_iload_n 3 d_C_plan_21 rfl (go_bipush (v := (40 : Int32)) d_C_plan_22 (by decide) B))) ?_
        by_cases c6 : (40 : Int32) < v3
        · replace hyp := (if_pos c6).symm.trans hyp
          refine rt_st (pc1 := 38) (fun _ _ B => go_icmp_gt_t 36 d_C_plan_24 rfl c6 (go_ldc (v := (-1000001 : Int32)) d_C_plan_36 w316 B)) ?_
          exact rt_eqW Value.int hyp (rt_int d_C_plan_38 rfl)
        · replace hyp := (if_neg c6).symm.trans hyp
          refine rt_st (pc1 := 33) (fun _ _ B => go_icmp_gt_f d_C_plan_24 rfl c6 (go_iload 4 d_C_plan_27 rfl (go_iconst (v := (2 : Int32)) d_C_plan_29 (by decide) (go_callS1 (st := []) [.int v4, .int (2 : Int32)] (t_C_within v4 (2 : Int32) h) mm_C_within (by decide) d_C_plan_30 w313 w314 rfl (Nat.le_of_ble_eq_true rfl) rfl B)))) ?_
          by_cases c7 : (f_C_within v4 (2 : Int32)) = 0
          · replace hyp := (if_pos c7).symm.trans hyp
            refine rt_st (pc1 := 38) (fun _ _ B => go_if_ne_f d_C_plan_33 rfl c7 (go_ldc (v := (-1000001 : Int32)) d_C_plan_36 w316 B)) ?_
            exact rt_eqW Value.int hyp (rt_int d_C_plan_38 rfl)
          · replace hyp := (if_neg c7).symm.trans hyp
            obtain ⟨x8, e9, hyp⟩ := Option.bind_eq_some_iff.mp hyp
            refine rt_st (pc1 := 50) (fun _ _ B => go_if_ne_t 39 d_C_plan_33 rfl c7 (go_aload_n 0 d_C_plan_39 rfl (go_iload_n 1 d_C_plan_40 rfl (go_iload_n 2 d_C_plan_41 rfl (go_iload_n 3 d_C_plan_42 rfl (go_callV1 (q := q_10) (st := []) [.int v1, .int v2, .int v3] (t_C_findingAt v0 v1 v2 v3 h _ (onc_spec e9).2) mm_C_findingAt (by decide) d_C_plan_43 (onc_spec e9).1 rfl rfl w804 w806 w23 rfl (Nat.le_of_ble_eq_true rfl) rfl (go_istore (lv1 := [(5, .int x8), (0, va_rf v0), (1, .int v1), (2, .int v2), (3, .int v3), (4, .int v4)]) d_C_plan_46 (by decide) rfl (go_iload 0 d_C_plan_48 rfl B)))))))) ?_
            by_cases c10 : x8 = 0
            · replace hyp := (if_pos c10).symm.trans hyp
              obtain ⟨x11, e12, hyp⟩ := Option.bind_eq_some_iff.mp hyp
              obtain ⟨x13, e14, hyp⟩ := Option.bind_eq_some_iff.mp hyp
              refine rt_st (pc1 := 75) (fun _ _ B => go_if_eq_t 62 d_C_plan_50 rfl c10 (go_aload_n 1 d_C_plan_62 rfl (go_aload_n 1 d_C_plan_63 rfl (go_iload_n 2 d_C_plan_64 rfl (go_iload_n 3 d_C_plan_65 rfl (go_iload_n 4 d_C_plan_66 rfl (go_iload 5 d_C_plan_67 rfl (go_callV1 (q := q_10) (st := [va_rf v0]) [.int v1, .int v2, .int v3, .int v4] (t_C_planned F v0 v1 v2 v3 v4 h _ (onc_spec e12).2) mm_C_planned (by decide) d_C_plan_69 (onc_spec e12).1 rfl rfl w808 w810 w24 rfl (Nat.le_of_ble_eq_true rfl) rfl (go_callV1 (q := q_10) (st := []) [.int x11.1] (t_C_sound v0 x11.1 x11.2 _ (onc_spec e14).2) mm_C_sound (by decide) d_C_plan_72 (onc_spec e14).1 rfl rfl w329 w331 w1 rfl (Nat.le_of_ble_eq_true rfl) rfl B))))))))) ?_
              exact rt_eqW Value.int hyp (rt_int d_C_plan_75 rfl)
            · replace hyp := (if_neg c10).symm.trans hyp
              obtain ⟨x15, e16, hyp⟩ := Option.bind_eq_some_iff.mp hyp
              refine rt_st (pc1 := 75) (fun _ _ B => go_if_eq_f d_C_plan_50 rfl c10 (go_aload_n 1 d_C_plan_53 rfl (go_iload 0 d_C_plan_54 rfl (go_callV1 (q := q_10) (st := []) [.int x8] (t_C_found v0 x8 h _ (onc_spec e16).2) mm_C_found (by decide) d_C_plan_56 (onc_spec e16).1 rfl rfl w317 w319 w0 rfl (Nat.le_of_ble_eq_true rfl) rfl (go_goto 75 d_C_plan_59 rfl B))))) ?_
              exact rt_eqW Value.int hyp (rt_int d_C_plan_75 rfl)
/-! WideTurn.waysBehind(IIIIII)I -/
def b_C_waysBehind_136 (F : Nat) (rec : Option Nat → Int32 → Int32 → Int32 → Int32 → Int32 → MH → Option (Int32 × MH)) : (Option Nat) → (Int32) → (Int32) → (MH) → (Option (Int32 × MH)) := fun v0 v7 v10 h => 
  Option.bind (gfr h v0 [10] 5) fun x1 =>
  Option.bind (pfv h x1 [1] 6 (.int v7)) fun h3 =>
  some (v10, h3)
def f_C_waysBehind (F : Nat) (rec : Option Nat → Int32 → Int32 → Int32 → Int32 → Int32 → MH → Option (Int32 × MH)) (v0 : Option Nat) (v1 : Int32) (v2 : Int32) (v3 : Int32) (v4 : Int32) (v5 : Int32) (v6 : Int32) (h : MH) : Option (Int32 × MH) :=
  Option.bind (gfr h v0 [10] 5) fun x1 =>
  Option.bind (gfi h x1 [1] 6) fun x3 =>
  Option.bind (gfr h v0 [10] 5) fun x5 =>
  Option.bind (pfv h x5 [1] 3 (.int v5)) fun h7 =>
  Option.bind (gfr h7 v0 [10] 5) fun x9 =>
  Option.bind (pfv h7 x9 [1] 4 (.int v6)) fun h11 =>
  Option.bind (gfr h11 v0 [10] 5) fun x13 =>
  Option.bind (onc h11 x13 1 (f_B_handAt x13 (v1 / (10 : Int32)) h11)) fun x15 =>
  if x15 = none then
    some ((0 : Int32), h11)
  else
    if (f_C_within (mj_irem v1 (10 : Int32)) (8 : Int32)) = 0 then
      some ((0 : Int32), h11)
    else
      Option.bind (gfr h11 v0 [10] 5) fun x19 =>
      Option.bind (onc h11 x19 1 (f_B_canMake x19 x15 (mj_irem v1 (10 : Int32)) h11)) fun x21 =>
      if x21 = 0 then
        some ((0 : Int32), h11)
      else
        Option.bind (gfr h11 v0 [10] 5) fun x24 =>
        Option.bind (onc h11 x24 1 (f_B_make x24 (mj_irem v1 (10 : Int32)) h11)) fun h26 =>
        Option.bind (gfr h26 v0 [10] 5) fun x28 =>
        Option.bind (gfi h26 x28 [1] 3) fun x30 =>
        Option.bind (gfr h26 v0 [10] 0) fun x32 =>
        Option.bind (onc h26 x32 5 (f_Rw_item x32 v2 v3 h26)) fun x34 =>
        if x30 = x34 then
          Option.bind (gfr h26 v0 [10] 5) fun x37 =>
          Option.bind (gfi h26 x37 [1] 3) fun x39 =>
          Option.bind (gfr h26 v0 [10] 5) fun x41 =>
          Option.bind (gfi h26 x41 [1] 4) fun x43 =>
          Option.bind (onc h26 v0 10 (rec v0 v2 (v3 + (1 : Int32)) (v4 - (1 : Int32)) x39 x43 h26)) fun x45 =>
          b_C_waysBehind_136 F rec v0 x3 x45.1 x45.2
        else
          b_C_waysBehind_136 F rec v0 x3 (0 : Int32) h26
set_option maxHeartbeats 4000000 in
set_option maxRecDepth 200000 in
theorem p_C_waysBehind_136 (dd : Nat) (hdd : 10 ≤ dd) (F : Nat) (rec : Option Nat → Int32 → Int32 → Int32 → Int32 → Int32 → MH → Option (Int32 × MH)) (hrec : ∀ o a b c e g h r, rec o a b c e g h = some r → Mt mi_C_waysSeen dd [va_rf o, .int a, .int b, .int c, .int e, .int g] h (some (.int r.1)) r.2) {h0 : MH} (v0 : Option Nat) (v7 : Int32) (v10 : Int32) (h : MH) (r : (Int32 × MH)) : b_C_waysBehind_136 F rec  v0 v7 v10 h = some r → Rt mi_C_waysBehind (dd + 1) h0 136 [(0, va_rf v0), (7, .int v7), (10, .int v10)] [] h (some (.int r.1)) r.2 := by
  intro hyp
  unfold b_C_waysBehind_136 at hyp
  obtain ⟨x1, e2, hyp⟩ := Option.bind_eq_some_iff.mp hyp
  obtain ⟨h3, e4, hyp⟩ := Option.bind_eq_some_iff.mp hyp
  refine rt_st (pc1 := 147) (fun _ _ B => go_aload_n 0 d_C_waysBehind_136 rfl (go_gfr d_C_waysBehind_137 fd_10_5 w280 e2 (go_iload 1 d_C_waysBehind_140 rfl (go_pfi d_C_waysBehind_142 fd_1_6 w238 (fun q => by cases q) e4 (go_iload 2 d_C_waysBehind_145 rfl B))))) ?_
  exact rt_eqW Value.int hyp (rt_int d_C_waysBehind_147 rfl)
set_option maxHeartbeats 4000000 in
set_option maxRecDepth 200000 in
theorem t_C_waysBehind (dd : Nat) (hdd : 10 ≤ dd) (F : Nat) (rec : Option Nat → Int32 → Int32 → Int32 → Int32 → Int32 → MH → Option (Int32 × MH)) (hrec : ∀ o a b c e g h r, rec o a b c e g h = some r → Mt mi_C_waysSeen dd [va_rf o, .int a, .int b, .int c, .int e, .int g] h (some (.int r.1)) r.2) (v0 : Option Nat) (v1 : Int32) (v2 : Int32) (v3 : Int32) (v4 : Int32) (v5 : Int32) (v6 : Int32) (h : MH) (r : (Int32 × MH)) (hyp : f_C_waysBehind F rec v0 v1 v2 v3 v4 v5 v6 h = some r) : Mt mi_C_waysBehind (dd + 1) [va_rf v0, .int v1, .int v2, .int v3, .int v4, .int v5, .int v6] h (some (.int r.1)) r.2 := by
  refine Mt.rt (lv := [(0, va_rf v0), (1, .int v1), (2, .int v2), (3, .int v3), (4, .int v4), (5, .int v5), (6, .int v6)]) (by decide +kernel) (by simp [lv_args, mj_rfc, mj_cti, mj_ctl]) (by simp [mj_rfc, mj_cti, mj_ctl]) ?_
  unfold f_C_waysBehind at hyp
  obtain ⟨x1, e2, hyp⟩ := Option.bind_eq_some_iff.mp hyp
  obtain ⟨x3, e4, hyp⟩ := Option.bind_eq_some_iff.mp hyp
  obtain ⟨x5, e6, hyp⟩ := Option.bind_eq_some_iff.mp hyp
  obtain ⟨h7, e8, hyp⟩ := Option.bind_eq_some_iff.mp hyp
  obtain ⟨x9, e10, hyp⟩ := Option.bind_eq_some_iff.mp hyp
  obtain ⟨h11, e12, hyp⟩ := Option.bind_eq_some_iff.mp hyp
  obtain ⟨x13, e14, hyp⟩ := Option.bind_eq_some_iff.mp hyp
  obtain ⟨x15, e16, hyp⟩ := Option.bind_eq_some_iff.mp hyp
  refine rt_st (pc1 := 48) (fun _ _ B => go_aload_n 0 d_C_waysBehind_0 rfl (go_gfr d_C_waysBehind_1 fd_10_5 w280 e2 (go_gfi d_C_waysBehind_4 fd_1_6 w238 e4 (go_istore (lv1 := [(7, .int x3), (0, va_rf v0), (1, .int v1), (2, .int v2), (3, .int v3), (4, .int v4), (5, .int v5), (6, .int v6)]) d_C_waysBehind_7 (by decide) rfl (go_aload_n 1 d_C_waysBehind_9 rfl (go_gfr d_C_waysBehind_10 fd_10_5 w280 e6 (go_iload 6 d_C_waysBehind_13 rfl (go_pfi d_C_waysBehind_15 fd_1_3 w226 (fun q => by cases q) e8 (go_aload_n 1 d_C_waysBehind_18 rfl (go_gfr d_C_waysBehind_19 fd_10_5 w280 e10 (go_iload 7 d_C_waysBehind_22 rfl (go_pfi d_C_waysBehind_24 fd_1_4 w231 (fun q => by cases q) e12 (go_aload_n 1 d_C_waysBehind_27 rfl (go_gfr d_C_waysBehind_28 fd_10_5 w280 e14 (go_iload_n 2 d_C_waysBehind_31 rfl (go_bipush (v := (10 : Int32)) d_C_waysBehind_32 (by decide) (go_idiv d_C_waysBehind_34 (by decide) (go_callV1 (q := q_1) (st := []) [.int (v1 / (10 : Int32))] (t_B_handAt x13 (v1 / (10 : Int32)) h11 _ (onc_spec e16).2) mm_B_handAt (by omega) d_C_waysBehind_35 (onc_spec e16).1 rfl rfl w567 w568 w569 rfl (Nat.le_of_ble_eq_true rfl) rfl (go_astore (lv1 := [(8, va_rf x15), (7, .int x3), (0, va_rf v0), (1, .int v1), (2, .int v2), (3, .int v3), (4, .int v4), (5, .int v5), (6, .int v6)]) d_C_waysBehind_38 (by decide) rfl (go_iload_n 3 d_C_waysBehind_40 rfl (go_bipush (v := (10 : Int32)) d_C_waysBehind_41 (by decide) (go_irem d_C_waysBehind_43 (by decide) (go_istore (lv1 := [(9, .int (mj_irem v1 (10 : Int32))), (8, va_rf x15), (7, .int x3), (0, va_rf v0), (1, .int v1), (2, .int v2), (3, .int v3), (4, .int v4), (5, .int v5), (6, .int v6)]) d_C_waysBehind_44 (by decide) (by first | (simp [mj_s1, mj_s2, mj_rfc, mj_cti, mj_ctl]; done) | (simp [mj_s1, mj_s2, mj_rfc, mj_cti, mj_ctl]; decide)) (go_aload 1 d_C_waysBehind_46 rfl B)))))))))))))))))))))))) ?_
  by_cases c17 : x15 = none
  · replace hyp := (if_pos c17).symm.trans hyp
    refine rt_st (pc1 := 76) (fun _ _ B => go_ifnull_t 75 d_C_waysBehind_48 rfl c17 (go_iconst (v := (0 : Int32)) d_C_waysBehind_75 (by decide) B)) ?_
    exact rt_eqW Value.int hyp (rt_int d_C_waysBehind_76 rfl)
  · replace hyp := (if_neg c17).symm.trans hyp
    refine rt_st (pc1 := 58) (fun _ _ B => go_ifnull_f d_C_waysBehind_48 rfl c17 (go_iload 0 d_C_waysBehind_51 rfl (go_bipush (v := (8 : Int32)) d_C_waysBehind_53 (by decide) (go_callS1 (st := []) [.int (mj_irem v1 (10 : Int32)), .int (8 : Int32)] (t_C_within (mj_irem v1 (10 : Int32)) (8 : Int32) h11) mm_C_within (by omega) d_C_waysBehind_55 w313 w314 rfl (Nat.le_of_ble_eq_true rfl) rfl B)))) ?_
    by_cases c18 : (f_C_within (mj_irem v1 (10 : Int32)) (8 : Int32)) = 0
    · replace hyp := (if_pos c18).symm.trans hyp
      refine rt_st (pc1 := 76) (fun _ _ B => go_if_eq_t 75 d_C_waysBehind_58 rfl c18 (go_iconst (v := (0 : Int32)) d_C_waysBehind_75 (by decide) B)) ?_
      exact rt_eqW Value.int hyp (rt_int d_C_waysBehind_76 rfl)
    · replace hyp := (if_neg c18).symm.trans hyp
      obtain ⟨x19, e20, hyp⟩ := Option.bind_eq_some_iff.mp hyp
      obtain ⟨x21, e22, hyp⟩ := Option.bind_eq_some_iff.mp hyp
      refine rt_st (pc1 := 72) (fun _ _ B => go_if_eq_f d_C_waysBehind_58 rfl c18 (go_aload_n 3 d_C_waysBehind_61 rfl (go_gfr d_C_waysBehind_62 fd_10_5 w280 e20 (go_aload 1 d_C_waysBehind_65 rfl (go_iload 0 d_C_waysBehind_67 rfl (go_callV1 (q := q_1) (st := []) [va_rf x15, .int (mj_irem v1 (10 : Int32))] (t_B_canMake x19 x15 (mj_irem v1 (10 : Int32)) h11 _ (onc_spec e22).2) mm_B_canMake (by omega) d_C_waysBehind_69 (onc_spec e22).1 rfl rfl w571 w572 w573 rfl (Nat.le_of_ble_eq_true rfl) rfl B)))))) ?_
      by_cases c23 : x21 = 0
      · replace hyp := (if_pos c23).symm.trans hyp
        refine rt_st (pc1 := 76) (fun _ _ B => go_if_ne_f d_C_waysBehind_72 rfl c23 (go_iconst (v := (0 : Int32)) d_C_waysBehind_75 (by decide) B)) ?_
        exact rt_eqW Value.int hyp (rt_int d_C_waysBehind_76 rfl)
      · replace hyp := (if_neg c23).symm.trans hyp
        obtain ⟨x24, e25, hyp⟩ := Option.bind_eq_some_iff.mp hyp
        obtain ⟨h26, e27, hyp⟩ := Option.bind_eq_some_iff.mp hyp
        obtain ⟨x28, e29, hyp⟩ := Option.bind_eq_some_iff.mp hyp
        obtain ⟨x30, e31, hyp⟩ := Option.bind_eq_some_iff.mp hyp
        obtain ⟨x32, e33, hyp⟩ := Option.bind_eq_some_iff.mp hyp
        obtain ⟨x34, e35, hyp⟩ := Option.bind_eq_some_iff.mp hyp
        refine rt_st (pc1 := 105) (fun _ _ B => go_if_ne_t 77 d_C_waysBehind_72 rfl c23 (go_aload_n 3 d_C_waysBehind_77 rfl (go_gfr d_C_waysBehind_78 fd_10_5 w280 e25 (go_iload 0 d_C_waysBehind_81 rfl (go_callV0 (q := q_1) (st := []) [.int (mj_irem v1 (10 : Int32))] (t_B_make x24 (mj_irem v1 (10 : Int32)) h11 _ (onc_spec e27).2) mm_B_make (by omega) d_C_waysBehind_83 (onc_spec e27).1 rfl rfl w639 w640 w641 rfl (Nat.le_of_ble_eq_true rfl) rfl (go_iconst (v := (0 : Int32)) d_C_waysBehind_86 (by decide) (go_istore (lv1 := [(10, .int (0 : Int32)), (9, .int (mj_irem v1 (10 : Int32))), (8, va_rf x15), (7, .int x3), (0, va_rf v0), (1, .int v1), (2, .int v2), (3, .int v3), (4, .int v4), (5, .int v5), (6, .int v6)]) d_C_waysBehind_87 (by decide) rfl (go_aload_n 4 d_C_waysBehind_89 rfl (go_gfr d_C_waysBehind_90 fd_10_5 w280 e29 (go_gfi d_C_waysBehind_93 fd_1_3 w226 e31 (go_aload_n 4 d_C_waysBehind_96 rfl (go_gfr d_C_waysBehind_97 fd_10_0 w275 e33 (go_iload_n 6 d_C_waysBehind_100 rfl (go_iload_n 7 d_C_waysBehind_101 rfl (go_callV1 (q := q_5) (st := [.int x30]) [.int v2, .int v3] (t_Rw_item x32 v2 v3 h26 _ (onc_spec e35).2) mm_Rw_item (by omega) d_C_waysBehind_102 (onc_spec e35).1 rfl rfl w812 w813 w814 rfl (Nat.le_of_ble_eq_true rfl) rfl B))))))))))))))) ?_
        by_cases c36 : x30 = x34
        · replace hyp := (if_pos c36).symm.trans hyp
          obtain ⟨x37, e38, hyp⟩ := Option.bind_eq_some_iff.mp hyp
          obtain ⟨x39, e40, hyp⟩ := Option.bind_eq_some_iff.mp hyp
          obtain ⟨x41, e42, hyp⟩ := Option.bind_eq_some_iff.mp hyp
          obtain ⟨x43, e44, hyp⟩ := Option.bind_eq_some_iff.mp hyp
          obtain ⟨x45, e46, hyp⟩ := Option.bind_eq_some_iff.mp hyp
          refine rt_st (pc1 := 136) (fun _ _ B => go_icmp_ne_f d_C_waysBehind_105 rfl c36 (go_aload_n 4 d_C_waysBehind_108 rfl (go_iload_n 6 d_C_waysBehind_109 rfl (go_iload_n 7 d_C_waysBehind_110 rfl (go_iconst (v := (1 : Int32)) d_C_waysBehind_111 (by decide) (go_iadd d_C_waysBehind_112 (go_iload 8 d_C_waysBehind_113 rfl (go_iconst (v := (1 : Int32)) d_C_waysBehind_115 (by decide) (go_isub d_C_waysBehind_116 (go_aload_n 4 d_C_waysBehind_117 rfl (go_gfr d_C_waysBehind_118 fd_10_5 w280 e38 (go_gfi d_C_waysBehind_121 fd_1_3 w226 e40 (go_aload_n 4 d_C_waysBehind_124 rfl (go_gfr d_C_waysBehind_125 fd_10_5 w280 e42 (go_gfi d_C_waysBehind_128 fd_1_4 w231 e44 (go_callV1 (q := q_10) (st := []) [.int v2, .int (v3 + (1 : Int32)), .int (v4 - (1 : Int32)), .int x39, .int x43] (hrec _ _ _ _ _ _ _ _ (onc_spec e46).2) mm_C_waysSeen (by omega) d_C_waysBehind_131 (onc_spec e46).1 rfl rfl w820 w822 w25 rfl (Nat.le_of_ble_eq_true rfl) rfl (go_istore (lv1 := [(10, .int x45.1), (9, .int (mj_irem v1 (10 : Int32))), (8, va_rf x15), (7, .int x3), (0, va_rf v0), (1, .int v1), (2, .int v2), (3, .int v3), (4, .int v4), (5, .int v5), (6, .int v6)]) d_C_waysBehind_134 (by decide) rfl B))))))))))))))))) ?_
          refine rt_sub [4, 3, 0] (lv1 := [(0, va_rf v0), (7, .int x3), (10, .int x45.1)]) rfl ?_
          exact p_C_waysBehind_136 dd hdd F rec hrec _ _ _ _ r hyp
        · replace hyp := (if_neg c36).symm.trans hyp
          refine rt_st (pc1 := 136) (fun _ _ B => go_icmp_ne_t 136 d_C_waysBehind_105 rfl c36 B) ?_
          refine rt_sub [4, 3, 0] (lv1 := [(0, va_rf v0), (7, .int x3), (10, .int (0 : Int32))]) rfl ?_
          exact p_C_waysBehind_136 dd hdd F rec hrec _ _ _ _ r hyp
/-! WideTurn.waysSeen(IIIII)I -/
def b_C_waysSeen_12 (F : Nat) (rec : Option Nat → Int32 → Int32 → Int32 → Int32 → Int32 → MH → Option (Int32 × MH)) : Nat → (Option Nat) → (Int32) → (Int32) → (Int32) → (Int32) → (Int32) → (Int32) → (Int32) → (MH) → (Option (Int32 × MH))
  | 0 => fun _ _ _ _ _ _ _ _ _ => none
  | n + 1 => fun v0 v1 v2 v3 v4 v5 v6 v7 h => 
    Option.bind (gfr h v0 [10] 5) fun x1 =>
    Option.bind (gfi h x1 [1] 8) fun x3 =>
    if ((10 : Int32) * x3) ≤ v7 then
      some (v6, h)
    else
      Option.bind (onc h v0 10 (f_C_waysBehind F rec v0 v7 v1 v2 v3 v4 v5 h)) fun x6 =>
      (b_C_waysSeen_12 F rec n) v0 v1 v2 v3 v4 v5 (v6 + x6.1) (v7 + (1 : Int32)) x6.2
def f_C_waysSeen (F : Nat) (rec : Option Nat → Int32 → Int32 → Int32 → Int32 → Int32 → MH → Option (Int32 × MH)) (v0 : Option Nat) (v1 : Int32) (v2 : Int32) (v3 : Int32) (v4 : Int32) (v5 : Int32) (h : MH) : Option (Int32 × MH) :=
  if 0 < v3 then
    b_C_waysSeen_12 F rec F v0 v1 v2 v3 v4 v5 (0 : Int32) (0 : Int32) h
  else
    some ((1 : Int32), h)
set_option maxHeartbeats 4000000 in
set_option maxRecDepth 200000 in
theorem p_C_waysSeen_12 (dd : Nat) (hdd : 10 ≤ dd) (F : Nat) (rec : Option Nat → Int32 → Int32 → Int32 → Int32 → Int32 → MH → Option (Int32 × MH)) (hrec : ∀ o a b c e g h r, rec o a b c e g h = some r → Mt mi_C_waysSeen dd [va_rf o, .int a, .int b, .int c, .int e, .int g] h (some (.int r.1)) r.2) {h0 : MH} : ∀ (n : Nat) (v0 : Option Nat) (v1 : Int32) (v2 : Int32) (v3 : Int32) (v4 : Int32) (v5 : Int32) (v6 : Int32) (v7 : Int32) (h : MH) (r : (Int32 × MH)), b_C_waysSeen_12 F rec  n v0 v1 v2 v3 v4 v5 v6 v7 h = some r → Rt mi_C_waysSeen (dd + 2) h0 12 [(0, va_rf v0), (1, .int v1), (2, .int v2), (3, .int v3), (4, .int v4), (5, .int v5), (6, .int v6), (7, .int v7)] [] h (some (.int r.1)) r.2 := by
  intro n
  induction n with
  | zero =>
    intro v0 v1 v2 v3 v4 v5 v6 v7 h r hyp
    cases hyp
  | succ n ih =>
    intro v0 v1 v2 v3 v4 v5 v6 v7 h r hyp
    unfold b_C_waysSeen_12 at hyp
    obtain ⟨x1, e2, hyp⟩ := Option.bind_eq_some_iff.mp hyp
    obtain ⟨x3, e4, hyp⟩ := Option.bind_eq_some_iff.mp hyp
    refine rt_st (pc1 := 24) (fun _ _ B => go_iload 7 d_C_waysSeen_12 rfl (go_bipush (v := (10 : Int32)) d_C_waysSeen_14 (by decide) (go_aload_n 0 d_C_waysSeen_16 rfl (go_gfr d_C_waysSeen_17 fd_10_5 w280 e2 (go_gfi d_C_waysSeen_20 fd_1_8 w244 e4 (go_imul d_C_waysSeen_23 B)))))) ?_
    by_cases c5 : ((10 : Int32) * x3) ≤ v7
    · replace hyp := (if_pos c5).symm.trans hyp
      refine rt_st (pc1 := 53) (fun _ _ B => go_icmp_ge_t 51 d_C_waysSeen_24 rfl c5 (go_iload 6 d_C_waysSeen_51 rfl B)) ?_
      exact rt_eqW Value.int hyp (rt_int d_C_waysSeen_53 rfl)
    · replace hyp := (if_neg c5).symm.trans hyp
      obtain ⟨x6, e7, hyp⟩ := Option.bind_eq_some_iff.mp hyp
      refine rt_st (pc1 := 12) (fun _ _ B => go_icmp_ge_f d_C_waysSeen_24 rfl c5 (go_iload 6 d_C_waysSeen_27 rfl (go_aload_n 0 d_C_waysSeen_29 rfl (go_iload 7 d_C_waysSeen_30 rfl (go_iload_n 1 d_C_waysSeen_32 rfl (go_iload_n 2 d_C_waysSeen_33 rfl (go_iload_n 3 d_C_waysSeen_34 rfl (go_iload 4 d_C_waysSeen_35 rfl (go_iload 5 d_C_waysSeen_37 rfl (go_callV1 (q := q_10) (st := [.int v6]) [.int v7, .int v1, .int v2, .int v3, .int v4, .int v5] (t_C_waysBehind dd hdd F rec hrec v0 v7 v1 v2 v3 v4 v5 h _ (onc_spec e7).2) mm_C_waysBehind (by omega) d_C_waysSeen_39 (onc_spec e7).1 rfl rfl w824 w826 w26 rfl (Nat.le_of_ble_eq_true rfl) rfl (go_iadd d_C_waysSeen_42 (go_istore (lv1 := [(6, .int (v6 + x6.1)), (0, va_rf v0), (1, .int v1), (2, .int v2), (3, .int v3), (4, .int v4), (5, .int v5), (7, .int v7)]) d_C_waysSeen_43 (by decide) rfl (go_iinc (v := (v7 + (1 : Int32))) (lv1 := [(7, .int (v7 + (1 : Int32))), (6, .int (v6 + x6.1)), (0, va_rf v0), (1, .int v1), (2, .int v2), (3, .int v3), (4, .int v4), (5, .int v5)]) 7 d_C_waysSeen_45 rfl rfl (by decide) rfl (go_goto 12 d_C_waysSeen_48 rfl B)))))))))))))) ?_
      refine rt_sub [2, 3, 4, 5, 6, 7, 1, 0] (lv1 := [(0, va_rf v0), (1, .int v1), (2, .int v2), (3, .int v3), (4, .int v4), (5, .int v5), (6, .int (v6 + x6.1)), (7, .int (v7 + (1 : Int32)))]) rfl ?_
      exact ih _ _ _ _ _ _ _ _ _ _ hyp
set_option maxHeartbeats 4000000 in
set_option maxRecDepth 200000 in
theorem t_C_waysSeen (dd : Nat) (hdd : 10 ≤ dd) (F : Nat) (rec : Option Nat → Int32 → Int32 → Int32 → Int32 → Int32 → MH → Option (Int32 × MH)) (hrec : ∀ o a b c e g h r, rec o a b c e g h = some r → Mt mi_C_waysSeen dd [va_rf o, .int a, .int b, .int c, .int e, .int g] h (some (.int r.1)) r.2) (v0 : Option Nat) (v1 : Int32) (v2 : Int32) (v3 : Int32) (v4 : Int32) (v5 : Int32) (h : MH) (r : (Int32 × MH)) (hyp : f_C_waysSeen F rec v0 v1 v2 v3 v4 v5 h = some r) : Mt mi_C_waysSeen (dd + 2) [va_rf v0, .int v1, .int v2, .int v3, .int v4, .int v5] h (some (.int r.1)) r.2 := by
  refine Mt.rt (lv := [(0, va_rf v0), (1, .int v1), (2, .int v2), (3, .int v3), (4, .int v4), (5, .int v5)]) (by decide +kernel) (by simp [lv_args, mj_rfc, mj_cti, mj_ctl]) (by simp [mj_rfc, mj_cti, mj_ctl]) ?_
  unfold f_C_waysSeen at hyp
  refine rt_st (pc1 := 1) (fun _ _ B => go_iload_n 3 d_C_waysSeen_0 rfl B) ?_
  by_cases c1 : 0 < v3
  · replace hyp := (if_pos c1).symm.trans hyp
    refine rt_st (pc1 := 12) (fun _ _ B => go_if_gt_t 6 d_C_waysSeen_1 rfl c1 (go_iconst (v := (0 : Int32)) d_C_waysSeen_6 (by decide) (go_istore (lv1 := [(6, .int (0 : Int32)), (0, va_rf v0), (1, .int v1), (2, .int v2), (3, .int v3), (4, .int v4), (5, .int v5)]) d_C_waysSeen_7 (by decide) rfl (go_iconst (v := (0 : Int32)) d_C_waysSeen_9 (by decide) (go_istore (lv1 := [(7, .int (0 : Int32)), (6, .int (0 : Int32)), (0, va_rf v0), (1, .int v1), (2, .int v2), (3, .int v3), (4, .int v4), (5, .int v5)]) d_C_waysSeen_10 (by decide) rfl B))))) ?_
    refine rt_sub [2, 3, 4, 5, 6, 7, 1, 0] (lv1 := [(0, va_rf v0), (1, .int v1), (2, .int v2), (3, .int v3), (4, .int v4), (5, .int v5), (6, .int (0 : Int32)), (7, .int (0 : Int32))]) rfl ?_
    exact p_C_waysSeen_12 dd hdd F rec hrec F _ _ _ _ _ _ _ _ _ r hyp
  · replace hyp := (if_neg c1).symm.trans hyp
    refine rt_st (pc1 := 5) (fun _ _ B => go_if_gt_f d_C_waysSeen_1 rfl c1 (go_iconst (v := (1 : Int32)) d_C_waysSeen_4 (by decide) B)) ?_
    exact rt_eqW Value.int hyp (rt_int d_C_waysSeen_5 rfl)
def g_C_waysSeen (F : Nat) : Nat → Option Nat → Int32 → Int32 → Int32 → Int32 → Int32 → MH → Option (Int32 × MH)
  | 0 => fun _ _ _ _ _ _ _ => none
  | k + 1 => fun o a b c e g h => f_C_waysSeen F (g_C_waysSeen F k) o a b c e g h
theorem tg_C_waysSeen (F k : Nat) : ∀ (o : Option Nat) (a b c e g : Int32) (h : MH) (r : Int32 × MH), g_C_waysSeen F k o a b c e g h = some r → Mt mi_C_waysSeen (10 + 2 * k) [va_rf o, .int a, .int b, .int c, .int e, .int g] h (some (.int r.1)) r.2 := by
  induction k with
  | zero => intro o a b c e g h r hyp; cases hyp
  | succ k ih =>
    intro o a b c e g h r hyp
    have := t_C_waysSeen (10 + 2 * k) (by omega) F (g_C_waysSeen F k) ih o a b c e g h r hyp
    rw [show 10 + 2 * (k + 1) = 10 + 2 * k + 2 by omega]
    exact this
/-! WideTurn.firstSeen(III)I -/
def b_C_firstSeen_3 (F : Nat) : Nat → (Option Nat) → (Int32) → (Int32) → (Int32) → (Int32) → (MH) → (Option (Int32 × MH))
  | 0 => fun _ _ _ _ _ _ => none
  | n + 1 => fun v0 v1 v2 v3 v4 h => 
    Option.bind (gfr h v0 [10] 4) fun x1 =>
    Option.bind (gfi h x1 [1] 8) fun x3 =>
    if ((10 : Int32) * x3) ≤ v4 then
      some ((-1000000 : Int32), h)
    else
      Option.bind (gfr h v0 [10] 4) fun x6 =>
      Option.bind (gfi h x6 [1] 3) fun x8 =>
      Option.bind (gfr h v0 [10] 4) fun x10 =>
      Option.bind (gfi h x10 [1] 4) fun x12 =>
      Option.bind (onc h v0 10 (f_C_waysBehind F (g_C_waysSeen F 6) v0 v4 v1 v2 v3 x8 x12 h)) fun x14 =>
      if x14.1 ≤ 0 then
        (b_C_firstSeen_3 F n) v0 v1 v2 v3 (v4 + (1 : Int32)) x14.2
      else
        some (v4, x14.2)
def f_C_firstSeen (F : Nat) (v0 : Option Nat) (v1 : Int32) (v2 : Int32) (v3 : Int32) (h : MH) : Option (Int32 × MH) :=
  b_C_firstSeen_3 F F v0 v1 v2 v3 (0 : Int32) h
set_option maxHeartbeats 4000000 in
set_option maxRecDepth 200000 in
theorem p_C_firstSeen_3 (F : Nat) {h0 : MH} : ∀ (n : Nat) (v0 : Option Nat) (v1 : Int32) (v2 : Int32) (v3 : Int32) (v4 : Int32) (h : MH) (r : (Int32 × MH)), b_C_firstSeen_3 F  n v0 v1 v2 v3 v4 h = some r → Rt mi_C_firstSeen 24 h0 3 [(0, va_rf v0), (1, .int v1), (2, .int v2), (3, .int v3), (4, .int v4)] [] h (some (.int r.1)) r.2 := by
  intro n
  induction n with
  | zero =>
    intro v0 v1 v2 v3 v4 h r hyp
    cases hyp
  | succ n ih =>
    intro v0 v1 v2 v3 v4 h r hyp
    unfold b_C_firstSeen_3 at hyp
    obtain ⟨x1, e2, hyp⟩ := Option.bind_eq_some_iff.mp hyp
    obtain ⟨x3, e4, hyp⟩ := Option.bind_eq_some_iff.mp hyp
    refine rt_st (pc1 := 15) (fun _ _ B => go_iload 4 d_C_firstSeen_3 rfl (go_bipush (v := (10 : Int32)) d_C_firstSeen_5 (by decide) (go_aload_n 0 d_C_firstSeen_7 rfl (go_gfr d_C_firstSeen_8 fd_10_4 w279 e2 (go_gfi d_C_firstSeen_11 fd_1_8 w244 e4 (go_imul d_C_firstSeen_14 B)))))) ?_
    by_cases c5 : ((10 : Int32) * x3) ≤ v4
    · replace hyp := (if_pos c5).symm.trans hyp
      refine rt_st (pc1 := 55) (fun _ _ B => go_icmp_ge_t 53 d_C_firstSeen_15 rfl c5 (go_ldc (v := (-1000000 : Int32)) d_C_firstSeen_53 w774 B)) ?_
      exact rt_eqW Value.int hyp (rt_int d_C_firstSeen_55 rfl)
    · replace hyp := (if_neg c5).symm.trans hyp
      obtain ⟨x6, e7, hyp⟩ := Option.bind_eq_some_iff.mp hyp
      obtain ⟨x8, e9, hyp⟩ := Option.bind_eq_some_iff.mp hyp
      obtain ⟨x10, e11, hyp⟩ := Option.bind_eq_some_iff.mp hyp
      obtain ⟨x12, e13, hyp⟩ := Option.bind_eq_some_iff.mp hyp
      obtain ⟨x14, e15, hyp⟩ := Option.bind_eq_some_iff.mp hyp
      refine rt_st (pc1 := 41) (fun _ _ B => go_icmp_ge_f d_C_firstSeen_15 rfl c5 (go_aload_n 0 d_C_firstSeen_18 rfl (go_iload 4 d_C_firstSeen_19 rfl (go_iload_n 1 d_C_firstSeen_21 rfl (go_iload_n 2 d_C_firstSeen_22 rfl (go_iload_n 3 d_C_firstSeen_23 rfl (go_aload_n 0 d_C_firstSeen_24 rfl (go_gfr d_C_firstSeen_25 fd_10_4 w279 e7 (go_gfi d_C_firstSeen_28 fd_1_3 w226 e9 (go_aload_n 0 d_C_firstSeen_31 rfl (go_gfr d_C_firstSeen_32 fd_10_4 w279 e11 (go_gfi d_C_firstSeen_35 fd_1_4 w231 e13 (go_callV1 (q := q_10) (st := []) [.int v4, .int v1, .int v2, .int v3, .int x8, .int x12] (t_C_waysBehind 22 (by decide) F _ (tg_C_waysSeen F 6) v0 v4 v1 v2 v3 x8 x12 h _ (onc_spec e15).2) mm_C_waysBehind (by decide) d_C_firstSeen_38 (onc_spec e15).1 rfl rfl w824 w826 w26 rfl (Nat.le_of_ble_eq_true rfl) rfl B))))))))))))) ?_
      by_cases c16 : x14.1 ≤ 0
      · replace hyp := (if_pos c16).symm.trans hyp
        refine rt_st (pc1 := 3) (fun _ _ B => go_if_le_t 47 d_C_firstSeen_41 rfl c16 (go_iinc (v := (v4 + (1 : Int32))) (lv1 := [(4, .int (v4 + (1 : Int32))), (0, va_rf v0), (1, .int v1), (2, .int v2), (3, .int v3)]) 4 d_C_firstSeen_47 rfl rfl (by decide) rfl (go_goto 3 d_C_firstSeen_50 rfl B))) ?_
        refine rt_sub [1, 2, 3, 4, 0] (lv1 := [(0, va_rf v0), (1, .int v1), (2, .int v2), (3, .int v3), (4, .int (v4 + (1 : Int32)))]) rfl ?_
        exact ih _ _ _ _ _ _ _ hyp
      · replace hyp := (if_neg c16).symm.trans hyp
        refine rt_st (pc1 := 46) (fun _ _ B => go_if_le_f d_C_firstSeen_41 rfl c16 (go_iload 4 d_C_firstSeen_44 rfl B)) ?_
        exact rt_eqW Value.int hyp (rt_int d_C_firstSeen_46 rfl)
set_option maxHeartbeats 4000000 in
set_option maxRecDepth 200000 in
theorem t_C_firstSeen (F : Nat) (v0 : Option Nat) (v1 : Int32) (v2 : Int32) (v3 : Int32) (h : MH) (r : (Int32 × MH)) (hyp : f_C_firstSeen F v0 v1 v2 v3 h = some r) : Mt mi_C_firstSeen 24 [va_rf v0, .int v1, .int v2, .int v3] h (some (.int r.1)) r.2 := by
  refine Mt.rt (lv := [(0, va_rf v0), (1, .int v1), (2, .int v2), (3, .int v3)]) (by decide +kernel) (by simp [lv_args, mj_rfc, mj_cti, mj_ctl]) (by simp [mj_rfc, mj_cti, mj_ctl]) ?_
  unfold f_C_firstSeen at hyp
  refine rt_st (pc1 := 3) (fun _ _ B => go_iconst (v := (0 : Int32)) d_C_firstSeen_0 (by decide) (go_istore (lv1 := [(4, .int (0 : Int32)), (0, va_rf v0), (1, .int v1), (2, .int v2), (3, .int v3)]) d_C_firstSeen_1 (by decide) rfl B)) ?_
  refine rt_sub [1, 2, 3, 4, 0] (lv1 := [(0, va_rf v0), (1, .int v1), (2, .int v2), (3, .int v3), (4, .int (0 : Int32))]) rfl ?_
  exact p_C_firstSeen_3 F F _ _ _ _ _ _ r hyp
/-! WideTurn.seen(IIII)I -/
def b_C_seen_108 (F : Nat) : (Option Nat) → (Int32) → (MH) → (Option (Int32 × MH)) := fun s0 s1 h => 
  Option.bind (onc h s0 10 (f_C_sound s0 s1 h)) fun x1 =>
  some (x1.1, x1.2)
def f_C_seen (F : Nat) (v0 : Option Nat) (v1 : Int32) (v2 : Int32) (v3 : Int32) (v4 : Int32) (h : MH) : Option (Int32 × MH) :=
  Option.bind (gfi h v0 [10] 8) fun x1 =>
  if x1 = 0 then
    some ((-1000002 : Int32), h)
  else
    if (f_C_isRow v1) = 0 then
      some ((-1000001 : Int32), h)
    else
      if v3 < (1 : Int32) then
        some ((-1000001 : Int32), h)
      else
        if (4 : Int32) < v3 then
          some ((-1000001 : Int32), h)
        else
          if (f_C_within v4 (2 : Int32)) = 0 then
            some ((-1000001 : Int32), h)
          else
            Option.bind (onc h v0 10 (f_C_findingAt v0 v1 v2 v3 h)) fun x8 =>
            if x8 = 0 then
              Option.bind (gfr h v0 [10] 5) fun x11 =>
              Option.bind (gfr h v0 [10] 4) fun x13 =>
              Option.bind (onc h x11 1 (f_B_become F x11 x13 h)) fun h15 =>
              if v4 = 0 then
                Option.bind (gfr h15 v0 [10] 4) fun x18 =>
                Option.bind (gfi h15 x18 [1] 3) fun x20 =>
                Option.bind (gfr h15 v0 [10] 4) fun x22 =>
                Option.bind (gfi h15 x22 [1] 4) fun x24 =>
                Option.bind (onc h15 v0 10 (g_C_waysSeen F 6 v0 v1 v2 v3 x20 x24 h15)) fun x26 =>
                b_C_seen_108 F v0 x26.1 x26.2
              else
                Option.bind (onc h15 v0 10 (f_C_firstSeen F v0 v1 v2 v3 h15)) fun x28 =>
                b_C_seen_108 F v0 x28.1 x28.2
            else
              Option.bind (onc h v0 10 (f_C_found v0 x8 h)) fun x30 =>
              some (x30.1, x30.2)
set_option maxHeartbeats 4000000 in
set_option maxRecDepth 200000 in
theorem p_C_seen_108 (F : Nat) {h0 : MH} (s0 : Option Nat) (s1 : Int32) (h : MH) (r : (Int32 × MH)) : b_C_seen_108 F  s0 s1 h = some r → Rt mi_C_seen 25 h0 108 [] [.int s1, va_rf s0] h (some (.int r.1)) r.2 := by
  intro hyp
  unfold b_C_seen_108 at hyp
  obtain ⟨x1, e2, hyp⟩ := Option.bind_eq_some_iff.mp hyp
  refine rt_st (pc1 := 111) (fun _ _ B => go_callV1 (q := q_10) (st := []) [.int s1] (t_C_sound s0 s1 h _ (onc_spec e2).2) mm_C_sound (by decide) d_C_seen_108 (onc_spec e2).1 rfl rfl w329 w331 w1 rfl (Nat.le_of_ble_eq_true rfl) rfl B) ?_
  exact rt_eqW Value.int hyp (rt_int d_C_seen_111 rfl)
set_option maxHeartbeats 4000000 in
set_option maxRecDepth 200000 in
theorem t_C_seen (F : Nat) (v0 : Option Nat) (v1 : Int32) (v2 : Int32) (v3 : Int32) (v4 : Int32) (h : MH) (r : (Int32 × MH)) (hyp : f_C_seen F v0 v1 v2 v3 v4 h = some r) : Mt mi_C_seen 25 [va_rf v0, .int v1, .int v2, .int v3, .int v4] h (some (.int r.1)) r.2 := by
  refine Mt.rt (lv := [(0, va_rf v0), (1, .int v1), (2, .int v2), (3, .int v3), (4, .int v4)]) (by decide +kernel) (by simp [lv_args, mj_rfc, mj_cti, mj_ctl]) (by simp [mj_rfc, mj_cti, mj_ctl]) ?_
  unfold f_C_seen at hyp
  obtain ⟨x1, e2, hyp⟩ := Option.bind_eq_some_iff.mp hyp
  refine rt_st (pc1 := 4) (fun _ _ B => go_aload_n 0 d_C_seen_0 rfl (go_gfi d_C_seen_1 fd_10_8 w283 e2 B)) ?_
  by_cases c3 : x1 = 0
  · replace hyp := (if_pos c3).symm.trans hyp
    refine rt_st (pc1 := 9) (fun _ _ B => go_if_ne_f d_C_seen_4 rfl c3 (go_ldc (v := (-1000002 : Int32)) d_C_seen_7 w552 B)) ?_
    exact rt_eqW Value.int hyp (rt_int d_C_seen_9 rfl)
  · replace hyp := (if_neg c3).symm.trans hyp
    refine rt_st (pc1 := 14) (fun _ _ B => go_if_ne_t 10 d_C_seen_4 rfl c3 (go_iload_n 1 d_C_seen_10 rfl (go_callS1 (st := []) [.int v1] (t_C_isRow v1 h) mm_C_isRow (by decide) d_C_seen_11 w310 w311 rfl (Nat.le_of_ble_eq_true rfl) rfl B))) ?_
    by_cases c4 : (f_C_isRow v1) = 0
    · replace hyp := (if_pos c4).symm.trans hyp
      refine rt_st (pc1 := 38) (fun _ _ B => go_if_eq_t 36 d_C_seen_14 rfl c4 (go_ldc (v := (-1000001 : Int32)) d_C_seen_36 w316 B)) ?_
      exact rt_eqW Value.int hyp (rt_int d_C_seen_38 rfl)
    · replace hyp := (if_neg c4).symm.trans hyp
      refine rt_st (pc1 := 19) (fun _ _ B => go_if_eq_f d_C_seen_14 rfl c4 (go_iload_n 3 d_C_seen_17 rfl (go_iconst (v := (1 : Int32)) d_C_seen_18 (by decide) B))) ?_
      by_cases c5 : v3 < (1 : Int32)
      · replace hyp := (if_pos c5).symm.trans hyp
        refine rt_st (pc1 := 38) (fun _ _ B => go_icmp_lt_t 36 d_C_seen_19 rfl c5 (go_ldc (v := (-1000001 : Int32)) d_C_seen_36 w316 B)) ?_
        exact rt_eqW Value.int hyp (rt_int d_C_seen_38 rfl)
      · replace hyp := (if_neg c5).symm.trans hyp
        refine rt_st (pc1 := 24) (fun _ _ B => go_icmp_lt_f d_C_seen_19 rfl c5 (go_iload_n 3 d_C_seen_22 rfl (go_iconst (v := (4 : Int32)) d_C_seen_23 (by decide) B))) ?_
        by_cases c6 : (4 : Int32) < v3
        · replace hyp := (if_pos c6).symm.trans hyp
          refine rt_st (pc1 := 38) (fun _ _ B => go_icmp_gt_t 36 d_C_seen_24 rfl c6 (go_ldc (v := (-1000001 : Int32)) d_C_seen_36 w316 B)) ?_
          exact rt_eqW Value.int hyp (rt_int d_C_seen_38 rfl)
        · replace hyp := (if_neg c6).symm.trans hyp
          refine rt_st (pc1 := 33) (fun _ _ B => go_icmp_gt_f d_C_seen_24 rfl c6 (go_iload 4 d_C_seen_27 rfl (go_iconst (v := (2 : Int32)) d_C_seen_29 (by decide) (go_callS1 (st := []) [.int v4, .int (2 : Int32)] (t_C_within v4 (2 : Int32) h) mm_C_within (by decide) d_C_seen_30 w313 w314 rfl (Nat.le_of_ble_eq_true rfl) rfl B)))) ?_
          by_cases c7 : (f_C_within v4 (2 : Int32)) = 0
          · replace hyp := (if_pos c7).symm.trans hyp
            refine rt_st (pc1 := 38) (fun _ _ B => go_if_ne_f d_C_seen_33 rfl c7 (go_ldc (v := (-1000001 : Int32)) d_C_seen_36 w316 B)) ?_
            exact rt_eqW Value.int hyp (rt_int d_C_seen_38 rfl)
          · replace hyp := (if_neg c7).symm.trans hyp
            obtain ⟨x8, e9, hyp⟩ := Option.bind_eq_some_iff.mp hyp
            refine rt_st (pc1 := 50) (fun _ _ B => go_if_ne_t 39 d_C_seen_33 rfl c7 (go_aload_n 0 d_C_seen_39 rfl (go_iload_n 1 d_C_seen_40 rfl (go_iload_n 2 d_C_seen_41 rfl (go_iload_n 3 d_C_seen_42 rfl (go_callV1 (q := q_10) (st := []) [.int v1, .int v2, .int v3] (t_C_findingAt v0 v1 v2 v3 h _ (onc_spec e9).2) mm_C_findingAt (by decide) d_C_seen_43 (onc_spec e9).1 rfl rfl w804 w806 w23 rfl (Nat.le_of_ble_eq_true rfl) rfl (go_istore (lv1 := [(5, .int x8), (0, va_rf v0), (1, .int v1), (2, .int v2), (3, .int v3), (4, .int v4)]) d_C_seen_46 (by decide) rfl (go_iload 0 d_C_seen_48 rfl B)))))))) ?_
            by_cases c10 : x8 = 0
            · replace hyp := (if_pos c10).symm.trans hyp
              obtain ⟨x11, e12, hyp⟩ := Option.bind_eq_some_iff.mp hyp
              obtain ⟨x13, e14, hyp⟩ := Option.bind_eq_some_iff.mp hyp
              obtain ⟨h15, e16, hyp⟩ := Option.bind_eq_some_iff.mp hyp
              refine rt_st (pc1 := 74) (fun _ _ B => go_if_eq_t 60 d_C_seen_50 rfl c10 (go_aload_n 1 d_C_seen_60 rfl (go_gfr d_C_seen_61 fd_10_5 w280 e12 (go_aload_n 1 d_C_seen_64 rfl (go_gfr d_C_seen_65 fd_10_4 w279 e14 (go_callV0 (q := q_1) (st := []) [va_rf x13] (t_B_become F x11 x13 h _ (onc_spec e16).2) mm_B_become (by decide) d_C_seen_68 (onc_spec e16).1 rfl rfl w526 w527 w528 rfl (Nat.le_of_ble_eq_true rfl) rfl (go_aload_n 1 d_C_seen_71 rfl (go_iload 5 d_C_seen_72 rfl B)))))))) ?_
              by_cases c17 : v4 = 0
              · replace hyp := (if_pos c17).symm.trans hyp
                obtain ⟨x18, e19, hyp⟩ := Option.bind_eq_some_iff.mp hyp
                obtain ⟨x20, e21, hyp⟩ := Option.bind_eq_some_iff.mp hyp
                obtain ⟨x22, e23, hyp⟩ := Option.bind_eq_some_iff.mp hyp
                obtain ⟨x24, e25, hyp⟩ := Option.bind_eq_some_iff.mp hyp
                obtain ⟨x26, e27, hyp⟩ := Option.bind_eq_some_iff.mp hyp
                refine rt_st (pc1 := 108) (fun _ _ B => go_if_ne_f d_C_seen_74 rfl c17 (go_aload_n 1 d_C_seen_77 rfl (go_iload_n 2 d_C_seen_78 rfl (go_iload_n 3 d_C_seen_79 rfl (go_iload_n 4 d_C_seen_80 rfl (go_aload_n 1 d_C_seen_81 rfl (go_gfr d_C_seen_82 fd_10_4 w279 e19 (go_gfi d_C_seen_85 fd_1_3 w226 e21 (go_aload_n 1 d_C_seen_88 rfl (go_gfr d_C_seen_89 fd_10_4 w279 e23 (go_gfi d_C_seen_92 fd_1_4 w231 e25 (go_callV1 (q := q_10) (st := [va_rf v0]) [.int v1, .int v2, .int v3, .int x20, .int x24] (tg_C_waysSeen F 6 v0 v1 v2 v3 x20 x24 h15 _ (onc_spec e27).2) mm_C_waysSeen (by decide) d_C_seen_95 (onc_spec e27).1 rfl rfl w820 w822 w25 rfl (Nat.le_of_ble_eq_true rfl) rfl (go_goto 108 d_C_seen_98 rfl B))))))))))))) ?_
                refine rt_sub [] (lv1 := []) rfl ?_
                exact p_C_seen_108 F _ _ _ r hyp
              · replace hyp := (if_neg c17).symm.trans hyp
                obtain ⟨x28, e29, hyp⟩ := Option.bind_eq_some_iff.mp hyp
                refine rt_st (pc1 := 108) (fun _ _ B => go_if_ne_t 101 d_C_seen_74 rfl c17 (go_aload_n 1 d_C_seen_101 rfl (go_iload_n 2 d_C_seen_102 rfl (go_iload_n 3 d_C_seen_103 rfl (go_iload_n 4 d_C_seen_104 rfl (go_callV1 (q := q_10) (st := [va_rf v0]) [.int v1, .int v2, .int v3] (t_C_firstSeen F v0 v1 v2 v3 h15 _ (onc_spec e29).2) mm_C_firstSeen (by decide) d_C_seen_105 (onc_spec e29).1 rfl rfl w828 w830 w27 rfl (Nat.le_of_ble_eq_true rfl) rfl B)))))) ?_
                refine rt_sub [] (lv1 := []) rfl ?_
                exact p_C_seen_108 F _ _ _ r hyp
            · replace hyp := (if_neg c10).symm.trans hyp
              obtain ⟨x30, e31, hyp⟩ := Option.bind_eq_some_iff.mp hyp
              refine rt_st (pc1 := 59) (fun _ _ B => go_if_eq_f d_C_seen_50 rfl c10 (go_aload_n 1 d_C_seen_53 rfl (go_iload 0 d_C_seen_54 rfl (go_callV1 (q := q_10) (st := []) [.int x8] (t_C_found v0 x8 h _ (onc_spec e31).2) mm_C_found (by decide) d_C_seen_56 (onc_spec e31).1 rfl rfl w317 w319 w0 rfl (Nat.le_of_ble_eq_true rfl) rfl B)))) ?_
              exact rt_eqW Value.int hyp (rt_int d_C_seen_59 rfl)
/-! WideTurn.choices(II)J -/
def b_C_choices_5 (F : Nat) : Nat → (Int32) → (Int32) → (Int64) → (Int32) → (Option (Int64))
  | 0 => fun _ _ _ _ => none
  | n + 1 => fun v0 v1 v2 v4 => 
    if v1 < v4 then
      some v2
    else
      Option.bind (mj_nzl (Int32.toInt64 v4)) fun _ =>
      (b_C_choices_5 F n) v0 v1 ((v2 * (Int32.toInt64 ((v0 - v1) + v4))) / (Int32.toInt64 v4)) (v4 + (1 : Int32))
def f_C_choices (F : Nat) (v0 : Int32) (v1 : Int32) : Option (Int64) :=
  b_C_choices_5 F F v0 v1 (1 : Int64) (1 : Int32)
set_option maxHeartbeats 4000000 in
set_option maxRecDepth 200000 in
theorem p_C_choices_5 (F : Nat) (h : MH) {h0 : MH} : ∀ (n : Nat) (v0 : Int32) (v1 : Int32) (v2 : Int64) (v4 : Int32) (r : (Int64)), b_C_choices_5 F  n v0 v1 v2 v4 = some r → Rt mi_C_choices 1 h0 5 [(0, .int v0), (1, .int v1), (2, .long v2), (4, .int v4)] [] h (some (.long r)) h := by
  intro n
  induction n with
  | zero =>
    intro v0 v1 v2 v4 r hyp
    cases hyp
  | succ n ih =>
    intro v0 v1 v2 v4 r hyp
    unfold b_C_choices_5 at hyp
    refine rt_st (pc1 := 8) (fun _ _ B => go_iload 3 d_C_choices_5 rfl (go_iload_n 1 d_C_choices_7 rfl B)) ?_
    by_cases c1 : v1 < v4
    · replace hyp := (if_pos c1).symm.trans hyp
      refine rt_st (pc1 := 32) (fun _ _ B => go_icmp_gt_t 31 d_C_choices_8 rfl c1 (go_lload_n 2 d_C_choices_31 rfl B)) ?_
      exact rt_eqR Value.long hyp (rt_long d_C_choices_32 rfl)
    · replace hyp := (if_neg c1).symm.trans hyp
      obtain ⟨_, e3, hyp⟩ := Option.bind_eq_some_iff.mp hyp
      refine rt_st (pc1 := 5) (fun _ _ B => go_icmp_gt_f d_C_choices_8 rfl c1 (go_lload_n 2 d_C_choices_11 rfl (go_iload_n 0 d_C_choices_12 rfl (go_iload_n 1 d_C_choices_13 rfl (go_isub d_C_choices_14 (go_iload 3 d_C_choices_15 rfl (go_iadd d_C_choices_17 (go_i2l d_C_choices_18 (go_lmul d_C_choices_19 (go_iload 3 d_C_choices_20 rfl (go_i2l d_C_choices_22 (go_ldiv d_C_choices_23 (mj_nzl_spec e3) (go_lstore_n (lv1 := [(2, .long ((v2 * (Int32.toInt64 ((v0 - v1) + v4))) / (Int32.toInt64 v4))), (0, .int v0), (1, .int v1), (4, .int v4)]) d_C_choices_24 (by decide) rfl (go_iinc (v := (v4 + (1 : Int32))) (lv1 := [(4, .int (v4 + (1 : Int32))), (2, .long ((v2 * (Int32.toInt64 ((v0 - v1) + v4))) / (Int32.toInt64 v4))), (0, .int v0), (1, .int v1)]) 3 d_C_choices_25 rfl rfl (by decide) rfl (go_goto 5 d_C_choices_28 rfl B))))))))))))))) ?_
      refine rt_sub [2, 3, 1, 0] (lv1 := [(0, .int v0), (1, .int v1), (2, .long ((v2 * (Int32.toInt64 ((v0 - v1) + v4))) / (Int32.toInt64 v4))), (4, .int (v4 + (1 : Int32)))]) rfl ?_
      exact ih _ _ _ _ _ hyp
set_option maxHeartbeats 4000000 in
set_option maxRecDepth 200000 in
theorem t_C_choices (F : Nat) (v0 : Int32) (v1 : Int32) (h : MH) (r : (Int64)) (hyp : f_C_choices F v0 v1 = some r) : Mt mi_C_choices 1 [.int v0, .int v1] h (some (.long r)) h := by
  refine Mt.rt (lv := [(0, .int v0), (1, .int v1)]) (by decide +kernel) (by simp [lv_args, mj_rfc, mj_cti, mj_ctl]) (by simp [mj_rfc, mj_cti, mj_ctl]) ?_
  unfold f_C_choices at hyp
  refine rt_st (pc1 := 5) (fun _ _ B => go_lconst (v := (1 : Int64)) d_C_choices_0 (by decide) (go_lstore_n (lv1 := [(2, .long (1 : Int64)), (0, .int v0), (1, .int v1)]) d_C_choices_1 (by decide) rfl (go_iconst (v := (1 : Int32)) d_C_choices_2 (by decide) (go_istore (lv1 := [(4, .int (1 : Int32)), (2, .long (1 : Int64)), (0, .int v0), (1, .int v1)]) d_C_choices_3 (by decide) rfl B)))) ?_
  refine rt_sub [2, 3, 1, 0] (lv1 := [(0, .int v0), (1, .int v1), (2, .long (1 : Int64)), (4, .int (1 : Int32))]) rfl ?_
  exact p_C_choices_5 F h F _ _ _ _ r hyp
/-! WideTurn.power(II)J -/
def b_C_power_5 (F : Nat) : Nat → (Int32) → (Int32) → (Int64) → (Int32) → (Option (Int64))
  | 0 => fun _ _ _ _ => none
  | n + 1 => fun v0 v1 v2 v4 => 
    if v1 ≤ v4 then
      some v2
    else
      (b_C_power_5 F n) v0 v1 (v2 * (Int32.toInt64 v0)) (v4 + (1 : Int32))
def f_C_power (F : Nat) (v0 : Int32) (v1 : Int32) : Option (Int64) :=
  b_C_power_5 F F v0 v1 (1 : Int64) (0 : Int32)
set_option maxHeartbeats 4000000 in
set_option maxRecDepth 200000 in
theorem p_C_power_5 (F : Nat) (h : MH) {h0 : MH} : ∀ (n : Nat) (v0 : Int32) (v1 : Int32) (v2 : Int64) (v4 : Int32) (r : (Int64)), b_C_power_5 F  n v0 v1 v2 v4 = some r → Rt mi_C_power 1 h0 5 [(0, .int v0), (1, .int v1), (2, .long v2), (4, .int v4)] [] h (some (.long r)) h := by
  intro n
  induction n with
  | zero =>
    intro v0 v1 v2 v4 r hyp
    cases hyp
  | succ n ih =>
    intro v0 v1 v2 v4 r hyp
    unfold b_C_power_5 at hyp
    refine rt_st (pc1 := 8) (fun _ _ B => go_iload 3 d_C_power_5 rfl (go_iload_n 1 d_C_power_7 rfl B)) ?_
    by_cases c1 : v1 ≤ v4
    · replace hyp := (if_pos c1).symm.trans hyp
      refine rt_st (pc1 := 23) (fun _ _ B => go_icmp_ge_t 22 d_C_power_8 rfl c1 (go_lload_n 2 d_C_power_22 rfl B)) ?_
      exact rt_eqR Value.long hyp (rt_long d_C_power_23 rfl)
    · replace hyp := (if_neg c1).symm.trans hyp
      refine rt_st (pc1 := 5) (fun _ _ B => go_icmp_ge_f d_C_power_8 rfl c1 (go_lload_n 2 d_C_power_11 rfl (go_iload_n 0 d_C_power_12 rfl (go_i2l d_C_power_13 (go_lmul d_C_power_14 (go_lstore_n (lv1 := [(2, .long (v2 * (Int32.toInt64 v0))), (0, .int v0), (1, .int v1), (4, .int v4)]) d_C_power_15 (by decide) rfl (go_iinc (v := (v4 + (1 : Int32))) (lv1 := [(4, .int (v4 + (1 : Int32))), (2, .long (v2 * (Int32.toInt64 v0))), (0, .int v0), (1, .int v1)]) 3 d_C_power_16 rfl rfl (by decide) rfl (go_goto 5 d_C_power_19 rfl B)))))))) ?_
      refine rt_sub [2, 3, 1, 0] (lv1 := [(0, .int v0), (1, .int v1), (2, .long (v2 * (Int32.toInt64 v0))), (4, .int (v4 + (1 : Int32)))]) rfl ?_
      exact ih _ _ _ _ _ hyp
set_option maxHeartbeats 4000000 in
set_option maxRecDepth 200000 in
theorem t_C_power (F : Nat) (v0 : Int32) (v1 : Int32) (h : MH) (r : (Int64)) (hyp : f_C_power F v0 v1 = some r) : Mt mi_C_power 1 [.int v0, .int v1] h (some (.long r)) h := by
  refine Mt.rt (lv := [(0, .int v0), (1, .int v1)]) (by decide +kernel) (by simp [lv_args, mj_rfc, mj_cti, mj_ctl]) (by simp [mj_rfc, mj_cti, mj_ctl]) ?_
  unfold f_C_power at hyp
  refine rt_st (pc1 := 5) (fun _ _ B => go_lconst (v := (1 : Int64)) d_C_power_0 (by decide) (go_lstore_n (lv1 := [(2, .long (1 : Int64)), (0, .int v0), (1, .int v1)]) d_C_power_1 (by decide) rfl (go_iconst (v := (0 : Int32)) d_C_power_2 (by decide) (go_istore (lv1 := [(4, .int (0 : Int32)), (2, .long (1 : Int64)), (0, .int v0), (1, .int v1)]) d_C_power_3 (by decide) rfl B)))) ?_
  refine rt_sub [2, 3, 1, 0] (lv1 := [(0, .int v0), (1, .int v1), (2, .long (1 : Int64)), (4, .int (0 : Int32))]) rfl ?_
  exact p_C_power_5 F h F _ _ _ _ r hyp
/-! WideTurn.commonDivisor(JJ)J -/
def b_C_commonDivisor_3 (F : Nat) : Nat → (Int64) → (Int64) → (Int32) → (Option (Int64))
  | 0 => fun _ _ _ => none
  | n + 1 => fun v0 v2 v4 => 
    if (128 : Int32) ≤ v4 then
      some v0
    else
      if (lg_cmp v2 (0 : Int64)) = 0 then
        some v0
      else
        Option.bind (mj_nzl v2) fun _ =>
        (b_C_commonDivisor_3 F n) v2 (mj_lrem v0 v2) (v4 + (1 : Int32))
def f_C_commonDivisor (F : Nat) (v0 : Int64) (v2 : Int64) : Option (Int64) :=
  b_C_commonDivisor_3 F F v0 v2 (0 : Int32)
set_option maxHeartbeats 4000000 in
set_option maxRecDepth 200000 in
theorem p_C_commonDivisor_3 (F : Nat) (h : MH) {h0 : MH} : ∀ (n : Nat) (v0 : Int64) (v2 : Int64) (v4 : Int32) (r : (Int64)), b_C_commonDivisor_3 F  n v0 v2 v4 = some r → Rt mi_C_commonDivisor 1 h0 3 [(0, .long v0), (2, .long v2), (4, .int v4)] [] h (some (.long r)) h := by
  intro n
  induction n with
  | zero =>
    intro v0 v2 v4 r hyp
    cases hyp
  | succ n ih =>
    intro v0 v2 v4 r hyp
    unfold b_C_commonDivisor_3 at hyp
    refine rt_st (pc1 := 8) (fun _ _ B => go_iload 2 d_C_commonDivisor_3 rfl (go_sipush (v := (128 : Int32)) d_C_commonDivisor_5 (by decide) B)) ?_
    by_cases c1 : (128 : Int32) ≤ v4
    · replace hyp := (if_pos c1).symm.trans hyp
      refine rt_st (pc1 := 34) (fun _ _ B => go_icmp_ge_t 33 d_C_commonDivisor_8 rfl c1 (go_lload_n 0 d_C_commonDivisor_33 rfl B)) ?_
      exact rt_eqR Value.long hyp (rt_long d_C_commonDivisor_34 rfl)
    · replace hyp := (if_neg c1).symm.trans hyp
      refine rt_st (pc1 := 14) (fun _ _ B => go_icmp_ge_f d_C_commonDivisor_8 rfl c1 (go_lload_n 1 d_C_commonDivisor_11 rfl (go_lconst (v := (0 : Int64)) d_C_commonDivisor_12 (by decide) (go_lcmp d_C_commonDivisor_13 B)))) ?_
      by_cases c2 : (lg_cmp v2 (0 : Int64)) = 0
      · replace hyp := (if_pos c2).symm.trans hyp
        refine rt_st (pc1 := 34) (fun _ _ B => go_if_eq_t 33 d_C_commonDivisor_14 rfl c2 (go_lload_n 0 d_C_commonDivisor_33 rfl B)) ?_
        exact rt_eqR Value.long hyp (rt_long d_C_commonDivisor_34 rfl)
      · replace hyp := (if_neg c2).symm.trans hyp
        obtain ⟨_, e4, hyp⟩ := Option.bind_eq_some_iff.mp hyp
        refine rt_st (pc1 := 3) (fun _ _ B => go_if_eq_f d_C_commonDivisor_14 rfl c2 (go_lload_n 0 d_C_commonDivisor_17 rfl (go_lload_n 1 d_C_commonDivisor_18 rfl (go_lrem d_C_commonDivisor_19 (mj_nzl_spec e4) (go_lstore (lv1 := [(5, .long (mj_lrem v0 v2)), (0, .long v0), (2, .long v2), (4, .int v4)]) d_C_commonDivisor_20 (by decide) rfl (go_lload_n 2 d_C_commonDivisor_22 rfl (go_lstore_n (lv1 := [(0, .long v2), (5, .long (mj_lrem v0 v2)), (2, .long v2), (4, .int v4)]) d_C_commonDivisor_23 (by decide) rfl (go_lload 1 d_C_commonDivisor_24 rfl (go_lstore_n (lv1 := [(2, .long (mj_lrem v0 v2)), (0, .long v2), (5, .long (mj_lrem v0 v2)), (4, .int v4)]) d_C_commonDivisor_26 (by decide) rfl (go_iinc (v := (v4 + (1 : Int32))) (lv1 := [(4, .int (v4 + (1 : Int32))), (2, .long (mj_lrem v0 v2)), (0, .long v2), (5, .long (mj_lrem v0 v2))]) 3 d_C_commonDivisor_27 rfl rfl (by decide) rfl (go_goto 3 d_C_commonDivisor_30 rfl B))))))))))) ?_
        refine rt_sub [2, 1, 0] (lv1 := [(0, .long v2), (2, .long (mj_lrem v0 v2)), (4, .int (v4 + (1 : Int32)))]) rfl ?_
        exact ih _ _ _ _ hyp
set_option maxHeartbeats 4000000 in
set_option maxRecDepth 200000 in
theorem t_C_commonDivisor (F : Nat) (v0 : Int64) (v2 : Int64) (h : MH) (r : (Int64)) (hyp : f_C_commonDivisor F v0 v2 = some r) : Mt mi_C_commonDivisor 1 [.long v0, .long v2] h (some (.long r)) h := by
  refine Mt.rt (lv := [(0, .long v0), (2, .long v2)]) (by decide +kernel) (by simp [lv_args, mj_rfc, mj_cti, mj_ctl]) (by simp [mj_rfc, mj_cti, mj_ctl]) ?_
  unfold f_C_commonDivisor at hyp
  refine rt_st (pc1 := 3) (fun _ _ B => go_iconst (v := (0 : Int32)) d_C_commonDivisor_0 (by decide) (go_istore (lv1 := [(4, .int (0 : Int32)), (0, .long v0), (2, .long v2)]) d_C_commonDivisor_1 (by decide) rfl B)) ?_
  refine rt_sub [1, 2, 0] (lv1 := [(0, .long v0), (2, .long v2), (4, .int (0 : Int32))]) rfl ?_
  exact p_C_commonDivisor_3 F h F _ _ _ r hyp
/-! WideTurn.gusts(IIII)J -/
def b_C_gusts_48 (F : Nat) : Nat → (Int32) → (Int32) → (Int32) → (Int64) → (Int32) → (Option (Int64))
  | 0 => fun _ _ _ _ _ => none
  | n + 1 => fun v1 v2 v4 v5 v7 => 
    if v2 < v7 then
      Option.bind (f_C_power F (10 : Int32) v2) fun x2 =>
      Option.bind (f_C_commonDivisor F v5 x2) fun x4 =>
      if 0 < (lg_cmp x4 (0 : Int64)) then
        if v4 = 0 then
          Option.bind (mj_nzl x4) fun _ =>
          some (v5 / x4)
        else
          Option.bind (mj_nzl x4) fun _ =>
          some (x2 / x4)
      else
        some (-1000001 : Int64)
    else
      Option.bind (f_C_choices F v2 v7) fun x12 =>
      Option.bind (f_C_power F v1 v7) fun x14 =>
      Option.bind (f_C_power F ((10 : Int32) - v1) (v2 - v7)) fun x16 =>
      (b_C_gusts_48 F n) v1 v2 v4 (v5 + ((x12 * x14) * x16)) (v7 + (1 : Int32))
def f_C_gusts (F : Nat) (v0 : Option Nat) (v1 : Int32) (v2 : Int32) (v3 : Int32) (v4 : Int32) : Option (Int64) :=
  if v1 < 0 then
    some (-1000001 : Int64)
  else
    if (10 : Int32) < v1 then
      some (-1000001 : Int64)
    else
      if v2 < 0 then
        some (-1000001 : Int64)
      else
        if (9 : Int32) < v2 then
          some (-1000001 : Int64)
        else
          if v3 < 0 then
            some (-1000001 : Int64)
          else
            if v2 < v3 then
              some (-1000001 : Int64)
            else
              if (f_C_within v4 (2 : Int32)) = 0 then
                some (-1000001 : Int64)
              else
                b_C_gusts_48 F F v1 v2 v4 (0 : Int64) v3
set_option maxHeartbeats 4000000 in
set_option maxRecDepth 200000 in
theorem p_C_gusts_48 (F : Nat) (h : MH) {h0 : MH} : ∀ (n : Nat) (v1 : Int32) (v2 : Int32) (v4 : Int32) (v5 : Int64) (v7 : Int32) (r : (Int64)), b_C_gusts_48 F  n v1 v2 v4 v5 v7 = some r → Rt mi_C_gusts 2 h0 48 [(1, .int v1), (2, .int v2), (4, .int v4), (5, .long v5), (7, .int v7)] [] h (some (.long r)) h := by
  intro n
  induction n with
  | zero =>
    intro v1 v2 v4 v5 v7 r hyp
    cases hyp
  | succ n ih =>
    intro v1 v2 v4 v5 v7 r hyp
    unfold b_C_gusts_48 at hyp
    refine rt_st (pc1 := 51) (fun _ _ B => go_iload 4 d_C_gusts_48 rfl (go_iload_n 1 d_C_gusts_50 rfl B)) ?_
    by_cases c1 : v2 < v7
    · replace hyp := (if_pos c1).symm.trans hyp
      obtain ⟨x2, e3, hyp⟩ := Option.bind_eq_some_iff.mp hyp
      obtain ⟨x4, e5, hyp⟩ := Option.bind_eq_some_iff.mp hyp
      refine rt_st (pc1 := 111) (fun _ _ B => go_icmp_gt_t 90 d_C_gusts_51 rfl c1 (go_bipush (v := (10 : Int32)) d_C_gusts_90 (by decide) (go_iload_n 1 d_C_gusts_92 rfl (go_callS1 (st := []) [.int (10 : Int32), .int v2] (t_C_power F (10 : Int32) v2 h _ e3) mm_C_power (by decide) d_C_gusts_93 w840 w841 rfl (Nat.le_of_ble_eq_true rfl) rfl (go_lstore (lv1 := [(7, .long x2), (1, .int v1), (2, .int v2), (4, .int v4), (5, .long v5)]) d_C_gusts_96 (by decide) rfl (go_lload 4 d_C_gusts_98 rfl (go_lload 0 d_C_gusts_100 rfl (go_callS1 (st := []) [.long v5, .long x2] (t_C_commonDivisor F v5 x2 h _ e5) mm_C_commonDivisor (by decide) d_C_gusts_102 w843 w844 rfl (Nat.le_of_ble_eq_true rfl) rfl (go_lstore (lv1 := [(9, .long x4), (7, .long x2), (1, .int v1), (2, .int v2), (4, .int v4), (5, .long v5)]) d_C_gusts_105 (by decide) rfl (go_lload 0 d_C_gusts_107 rfl (go_lconst (v := (0 : Int64)) d_C_gusts_109 (by decide) (go_lcmp d_C_gusts_110 B)))))))))))) ?_
      by_cases c6 : 0 < (lg_cmp x4 (0 : Int64))
      · replace hyp := (if_pos c6).symm.trans hyp
        refine rt_st (pc1 := 120) (fun _ _ B => go_if_gt_t 118 d_C_gusts_111 rfl c6 (go_iload 4 d_C_gusts_118 rfl B)) ?_
        by_cases c7 : v4 = 0
        · replace hyp := (if_pos c7).symm.trans hyp
          obtain ⟨_, e9, hyp⟩ := Option.bind_eq_some_iff.mp hyp
          refine rt_st (pc1 := 133) (fun _ _ B => go_if_ne_f d_C_gusts_120 rfl c7 (go_lload 5 d_C_gusts_123 rfl (go_goto 130 d_C_gusts_125 rfl (go_lload 0 d_C_gusts_130 rfl (go_ldiv d_C_gusts_132 (mj_nzl_spec e9) B))))) ?_
          exact rt_eqR Value.long hyp (rt_long d_C_gusts_133 rfl)
        · replace hyp := (if_neg c7).symm.trans hyp
          obtain ⟨_, e11, hyp⟩ := Option.bind_eq_some_iff.mp hyp
          refine rt_st (pc1 := 133) (fun _ _ B => go_if_ne_t 128 d_C_gusts_120 rfl c7 (go_lload 1 d_C_gusts_128 rfl (go_lload 0 d_C_gusts_130 rfl (go_ldiv d_C_gusts_132 (mj_nzl_spec e11) B)))) ?_
          exact rt_eqR Value.long hyp (rt_long d_C_gusts_133 rfl)
      · replace hyp := (if_neg c6).symm.trans hyp
        refine rt_st (pc1 := 117) (fun _ _ B => go_if_gt_f d_C_gusts_111 rfl c6 (go_ldc2 (v := (-1000001 : Int64)) d_C_gusts_114 w836 B)) ?_
        exact rt_eqR Value.long hyp (rt_long d_C_gusts_117 rfl)
    · replace hyp := (if_neg c1).symm.trans hyp
      obtain ⟨x12, e13, hyp⟩ := Option.bind_eq_some_iff.mp hyp
      obtain ⟨x14, e15, hyp⟩ := Option.bind_eq_some_iff.mp hyp
      obtain ⟨x16, e17, hyp⟩ := Option.bind_eq_some_iff.mp hyp
      refine rt_st (pc1 := 48) (fun _ _ B => go_icmp_gt_f d_C_gusts_51 rfl c1 (go_lload 3 d_C_gusts_54 rfl (go_iload_n 1 d_C_gusts_56 rfl (go_iload 4 d_C_gusts_57 rfl (go_callS1 (st := [.long v5]) [.int v2, .int v7] (t_C_choices F v2 v7 h _ e13) mm_C_choices (by decide) d_C_gusts_59 w837 w838 rfl (Nat.le_of_ble_eq_true rfl) rfl (go_iload_n 0 d_C_gusts_62 rfl (go_iload 4 d_C_gusts_63 rfl (go_callS1 (st := [.long x12, .long v5]) [.int v1, .int v7] (t_C_power F v1 v7 h _ e15) mm_C_power (by decide) d_C_gusts_65 w840 w841 rfl (Nat.le_of_ble_eq_true rfl) rfl (go_lmul d_C_gusts_68 (go_bipush (v := (10 : Int32)) d_C_gusts_69 (by decide) (go_iload_n 0 d_C_gusts_71 rfl (go_isub d_C_gusts_72 (go_iload_n 1 d_C_gusts_73 rfl (go_iload 4 d_C_gusts_74 rfl (go_isub d_C_gusts_76 (go_callS1 (st := [.long (x12 * x14), .long v5]) [.int ((10 : Int32) - v1), .int (v2 - v7)] (t_C_power F ((10 : Int32) - v1) (v2 - v7) h _ e17) mm_C_power (by decide) d_C_gusts_77 w840 w841 rfl (Nat.le_of_ble_eq_true rfl) rfl (go_lmul d_C_gusts_80 (go_ladd d_C_gusts_81 (go_lstore (lv1 := [(5, .long (v5 + ((x12 * x14) * x16))), (1, .int v1), (2, .int v2), (4, .int v4), (7, .int v7)]) d_C_gusts_82 (by decide) rfl (go_iinc (v := (v7 + (1 : Int32))) (lv1 := [(7, .int (v7 + (1 : Int32))), (5, .long (v5 + ((x12 * x14) * x16))), (1, .int v1), (2, .int v2), (4, .int v4)]) 4 d_C_gusts_84 rfl rfl (by decide) rfl (go_goto 48 d_C_gusts_87 rfl B))))))))))))))))))))) ?_
      refine rt_sub [2, 3, 4, 1, 0] (lv1 := [(1, .int v1), (2, .int v2), (4, .int v4), (5, .long (v5 + ((x12 * x14) * x16))), (7, .int (v7 + (1 : Int32)))]) rfl ?_
      exact ih _ _ _ _ _ _ hyp
set_option maxHeartbeats 4000000 in
set_option maxRecDepth 200000 in
theorem t_C_gusts (F : Nat) (v0 : Option Nat) (v1 : Int32) (v2 : Int32) (v3 : Int32) (v4 : Int32) (h : MH) (r : (Int64)) (hyp : f_C_gusts F v0 v1 v2 v3 v4 = some r) : Mt mi_C_gusts 2 [va_rf v0, .int v1, .int v2, .int v3, .int v4] h (some (.long r)) h := by
  refine Mt.rt (lv := [(0, va_rf v0), (1, .int v1), (2, .int v2), (3, .int v3), (4, .int v4)]) (by decide +kernel) (by simp [lv_args, mj_rfc, mj_cti, mj_ctl]) (by simp [mj_rfc, mj_cti, mj_ctl]) ?_
  unfold f_C_gusts at hyp
  refine rt_st (pc1 := 1) (fun _ _ B => go_iload_n 1 d_C_gusts_0 rfl B) ?_
  by_cases c1 : v1 < 0
  · replace hyp := (if_pos c1).symm.trans hyp
    refine rt_st (pc1 := 41) (fun _ _ B => go_if_lt_t 38 d_C_gusts_1 rfl c1 (go_ldc2 (v := (-1000001 : Int64)) d_C_gusts_38 w836 B)) ?_
    exact rt_eqR Value.long hyp (rt_long d_C_gusts_41 rfl)
  · replace hyp := (if_neg c1).symm.trans hyp
    refine rt_st (pc1 := 7) (fun _ _ B => go_if_lt_f d_C_gusts_1 rfl c1 (go_iload_n 1 d_C_gusts_4 rfl (go_bipush (v := (10 : Int32)) d_C_gusts_5 (by decide) B))) ?_
    by_cases c2 : (10 : Int32) < v1
    · replace hyp := (if_pos c2).symm.trans hyp
      refine rt_st (pc1 := 41) (fun _ _ B => go_icmp_gt_t 38 d_C_gusts_7 rfl c2 (go_ldc2 (v := (-1000001 : Int64)) d_C_gusts_38 w836 B)) ?_
      exact rt_eqR Value.long hyp (rt_long d_C_gusts_41 rfl)
    · replace hyp := (if_neg c2).symm.trans hyp
      refine rt_st (pc1 := 11) (fun _ _ B => go_icmp_gt_f d_C_gusts_7 rfl c2 (go_iload_n 2 d_C_gusts_10 rfl B)) ?_
      by_cases c3 : v2 < 0
      · replace hyp := (if_pos c3).symm.trans hyp
        refine rt_st (pc1 := 41) (fun _ _ B => go_if_lt_t 38 d_C_gusts_11 rfl c3 (go_ldc2 (v := (-1000001 : Int64)) d_C_gusts_38 w836 B)) ?_
        exact rt_eqR Value.long hyp (rt_long d_C_gusts_41 rfl)
      · replace hyp := (if_neg c3).symm.trans hyp
        refine rt_st (pc1 := 17) (fun _ _ B => go_if_lt_f d_C_gusts_11 rfl c3 (go_iload_n 2 d_C_gusts_14 rfl (go_bipush (v := (9 : Int32)) d_C_gusts_15 (by decide) B))) ?_
        by_cases c4 : (9 : Int32) < v2
        · replace hyp := (if_pos c4).symm.trans hyp
          refine rt_st (pc1 := 41) (fun _ _ B => go_icmp_gt_t 38 d_C_gusts_17 rfl c4 (go_ldc2 (v := (-1000001 : Int64)) d_C_gusts_38 w836 B)) ?_
          exact rt_eqR Value.long hyp (rt_long d_C_gusts_41 rfl)
        · replace hyp := (if_neg c4).symm.trans hyp
          refine rt_st (pc1 := 21) (fun _ _ B => go_icmp_gt_f d_C_gusts_17 rfl c4 (go_iload_n 3 d_C_gusts_20 rfl B)) ?_
          by_cases c5 : v3 < 0
          · replace hyp := (if_pos c5).symm.trans hyp
            refine rt_st (pc1 := 41) (fun _ _ B => go_if_lt_t 38 d_C_gusts_21 rfl c5 (go_ldc2 (v := (-1000001 : Int64)) d_C_gusts_38 w836 B)) ?_
            exact rt_eqR Value.long hyp (rt_long d_C_gusts_41 rfl)
          · replace hyp := (if_neg c5).symm.trans hyp
            refine rt_st (pc1 := 26) (fun _ _ B => go_if_lt_f d_C_gusts_21 rfl c5 (go_iload_n 3 d_C_gusts_24 rfl (go_iload_n 2 d_C_gusts_25 rfl B))) ?_
            by_cases c6 : v2 < v3
            · replace hyp := (if_pos c6).symm.trans hyp
              refine rt_st (pc1 := 41) (fun _ _ B => go_icmp_gt_t 38 d_C_gusts_26 rfl c6 (go_ldc2 (v := (-1000001 : Int64)) d_C_gusts_38 w836 B)) ?_
              exact rt_eqR Value.long hyp (rt_long d_C_gusts_41 rfl)
            · replace hyp := (if_neg c6).symm.trans hyp
              refine rt_st (pc1 := 35) (fun _ _ B => go_icmp_gt_f d_C_gusts_26 rfl c6 (go_iload 4 d_C_gusts_29 rfl (go_iconst (v := (2 : Int32)) d_C_gusts_31 (by decide) (go_callS1 (st := []) [.int v4, .int (2 : Int32)] (t_C_within v4 (2 : Int32) h) mm_C_within (by decide) d_C_gusts_32 w313 w314 rfl (Nat.le_of_ble_eq_true rfl) rfl B)))) ?_
              by_cases c7 : (f_C_within v4 (2 : Int32)) = 0
              · replace hyp := (if_pos c7).symm.trans hyp
                refine rt_st (pc1 := 41) (fun _ _ B => go_if_ne_f d_C_gusts_35 rfl c7 (go_ldc2 (v := (-1000001 : Int64)) d_C_gusts_38 w836 B)) ?_
                exact rt_eqR Value.long hyp (rt_long d_C_gusts_41 rfl)
              · replace hyp := (if_neg c7).symm.trans hyp
                refine rt_st (pc1 := 48) (fun _ _ B => go_if_ne_t 42 d_C_gusts_35 rfl c7 (go_lconst (v := (0 : Int64)) d_C_gusts_42 (by decide) (go_lstore (lv1 := [(5, .long (0 : Int64)), (0, va_rf v0), (1, .int v1), (2, .int v2), (3, .int v3), (4, .int v4)]) d_C_gusts_43 (by decide) rfl (go_iload_n 4 d_C_gusts_45 rfl (go_istore (lv1 := [(7, .int v3), (5, .long (0 : Int64)), (0, va_rf v0), (1, .int v1), (2, .int v2), (3, .int v3), (4, .int v4)]) d_C_gusts_46 (by decide) rfl B))))) ?_
                refine rt_sub [3, 4, 6, 1, 0] (lv1 := [(1, .int v1), (2, .int v2), (4, .int v4), (5, .long (0 : Int64)), (7, .int v3)]) rfl ?_
                exact p_C_gusts_48 F h F _ _ _ _ _ r hyp
/-! WideTurn.reach()I -/
def f_C_reach (F : Nat) (v0 : Option Nat) (h : MH) : Option (Int32 × MH) :=
  Option.bind (gfi h v0 [10] 8) fun x1 =>
  if x1 = 0 then
    some ((-1000002 : Int32), h)
  else
    Option.bind (gfr h v0 [10] 3) fun x4 =>
    Option.bind (gfr h v0 [10] 4) fun x6 =>
    Option.bind (gfr h v0 [10] 4) fun x8 =>
    Option.bind (onc h x8 1 (f_B_sinks x8 h)) fun x10 =>
    Option.bind (onc h x4 6 (f_S_explore F x4 x6 x10 (-1 : Int32) h)) fun h12 =>
    Option.bind (gfr h12 v0 [10] 3) fun x14 =>
    Option.bind (onc h12 x14 6 (f_S_cellsReached F x14 h12)) fun x16 =>
    some (x16, h12)
set_option maxHeartbeats 4000000 in
set_option maxRecDepth 200000 in
theorem t_C_reach (F : Nat) (v0 : Option Nat) (h : MH) (r : (Int32 × MH)) (hyp : f_C_reach F v0 h = some r) : Mt mi_C_reach 5 [va_rf v0] h (some (.int r.1)) r.2 := by
  refine Mt.rt (lv := [(0, va_rf v0)]) (by decide +kernel) (by simp [lv_args, mj_rfc, mj_cti, mj_ctl]) (by simp [mj_rfc, mj_cti, mj_ctl]) ?_
  unfold f_C_reach at hyp
  obtain ⟨x1, e2, hyp⟩ := Option.bind_eq_some_iff.mp hyp
  refine rt_st (pc1 := 4) (fun _ _ B => go_aload_n 0 d_C_reach_0 rfl (go_gfi d_C_reach_1 fd_10_8 w283 e2 B)) ?_
  by_cases c3 : x1 = 0
  · replace hyp := (if_pos c3).symm.trans hyp
    refine rt_st (pc1 := 9) (fun _ _ B => go_if_ne_f d_C_reach_4 rfl c3 (go_ldc (v := (-1000002 : Int32)) d_C_reach_7 w552 B)) ?_
    exact rt_eqW Value.int hyp (rt_int d_C_reach_9 rfl)
  · replace hyp := (if_neg c3).symm.trans hyp
    obtain ⟨x4, e5, hyp⟩ := Option.bind_eq_some_iff.mp hyp
    obtain ⟨x6, e7, hyp⟩ := Option.bind_eq_some_iff.mp hyp
    obtain ⟨x8, e9, hyp⟩ := Option.bind_eq_some_iff.mp hyp
    obtain ⟨x10, e11, hyp⟩ := Option.bind_eq_some_iff.mp hyp
    obtain ⟨h12, e13, hyp⟩ := Option.bind_eq_some_iff.mp hyp
    obtain ⟨x14, e15, hyp⟩ := Option.bind_eq_some_iff.mp hyp
    obtain ⟨x16, e17, hyp⟩ := Option.bind_eq_some_iff.mp hyp
    refine rt_st (pc1 := 36) (fun _ _ B => go_if_ne_t 10 d_C_reach_4 rfl c3 (go_aload_n 0 d_C_reach_10 rfl (go_gfr d_C_reach_11 fd_10_3 w278 e5 (go_aload_n 0 d_C_reach_14 rfl (go_gfr d_C_reach_15 fd_10_4 w279 e7 (go_aload_n 0 d_C_reach_18 rfl (go_gfr d_C_reach_19 fd_10_4 w279 e9 (go_callV1 (q := q_1) (st := [va_rf x6, va_rf x4]) [] (t_B_sinks x8 h _ (onc_spec e11).2) mm_B_sinks (by decide) d_C_reach_22 (onc_spec e11).1 rfl rfl w652 w576 w577 rfl (Nat.le_of_ble_eq_true rfl) rfl (go_iconst (v := (-1 : Int32)) d_C_reach_25 (by decide) (go_callV0 (q := q_6) (st := []) [va_rf x6, .int x10, .int (-1 : Int32)] (t_S_explore F x4 x6 x10 (-1 : Int32) h _ (onc_spec e13).2) mm_S_explore (by decide) d_C_reach_26 (onc_spec e13).1 rfl rfl w700 w701 w702 rfl (Nat.le_of_ble_eq_true rfl) rfl (go_aload_n 0 d_C_reach_29 rfl (go_gfr d_C_reach_30 fd_10_3 w278 e15 (go_callV1 (q := q_6) (st := []) [] (t_S_cellsReached F x14 h12 _ (onc_spec e17).2) mm_S_cellsReached (by decide) d_C_reach_33 (onc_spec e17).1 rfl rfl w850 w851 w852 rfl (Nat.le_of_ble_eq_true rfl) rfl B))))))))))))) ?_
    exact rt_eqW Value.int hyp (rt_int d_C_reach_36 rfl)
/-! WideTurn.passDays(II)I -/
def b_C_passDays_105 (F : Nat) (k20 : (Option Nat) → Int32 → Int64 → Int32 → Int32 → MH → (Option (Int32 × MH))) : (Option Nat) → (Int32) → (Int64) → (Int32) → (Int32) → (MH) → (Option (Int32 × MH)) := fun v0 v1 v3 v5 v6 h => 
  k20 v0 v1 v3 v5 (v6 + (1 : Int32)) h
def b_C_passDays_20 (F : Nat) : Nat → (Option Nat) → (Int32) → (Int64) → (Int32) → (Int32) → (MH) → (Option (Int32 × MH))
  | 0 => fun _ _ _ _ _ _ => none
  | n + 1 => fun v0 v1 v3 v5 v6 h => 
    if v1 ≤ v6 then
      some (v5, h)
    else
      Option.bind (gfr h v0 [10] 5) fun x2 =>
      Option.bind (gfi h x2 [1] 8) fun x4 =>
      if x4 ≤ 0 then
        some (v5, h)
      else
        Option.bind (gfr h v0 [10] 5) fun x7 =>
        Option.bind (gfr h v0 [10] 5) fun x9 =>
        Option.bind (gfi h x9 [1] 8) fun x11 =>
        Option.bind (mj_nzl (Int32.toInt64 x11)) fun _ =>
        Option.bind (onc h x7 1 (f_B_handAt x7 (Int64.toInt32 (mj_lrem (mj_lrem (v3 * (16807 : Int64)) (2147483647 : Int64)) (Int32.toInt64 x11))) h)) fun x15 =>
        if x15 = none then
          b_C_passDays_105 F (b_C_passDays_20 F n) v0 v1 (mj_lrem (v3 * (16807 : Int64)) (2147483647 : Int64)) v5 v6 h
        else
          Option.bind (gfr h v0 [10] 5) fun x18 =>
          Option.bind (onc h x18 1 (f_B_canMake x18 x15 (Int64.toInt32 (mj_lrem (mj_lrem (v3 * (16807 : Int64)) (2147483647 : Int64)) (8 : Int64))) h)) fun x20 =>
          if x20 = 0 then
            b_C_passDays_105 F (b_C_passDays_20 F n) v0 v1 (mj_lrem (v3 * (16807 : Int64)) (2147483647 : Int64)) v5 v6 h
          else
            Option.bind (gfr h v0 [10] 5) fun x23 =>
            Option.bind (onc h x23 1 (f_B_make x23 (Int64.toInt32 (mj_lrem (mj_lrem (v3 * (16807 : Int64)) (2147483647 : Int64)) (8 : Int64))) h)) fun h25 =>
            b_C_passDays_105 F (b_C_passDays_20 F n) v0 v1 (mj_lrem (v3 * (16807 : Int64)) (2147483647 : Int64)) (v5 + (1 : Int32)) v6 h25
def f_C_passDays (F : Nat) (v0 : Option Nat) (v1 : Int32) (v2 : Int32) (h : MH) : Option (Int32 × MH) :=
  Option.bind (gfr h v0 [10] 5) fun x1 =>
  Option.bind (gfr h v0 [10] 4) fun x3 =>
  Option.bind (onc h x1 1 (f_B_become F x1 x3 h)) fun h5 =>
  b_C_passDays_20 F F v0 v1 (Int32.toInt64 v2) (0 : Int32) (0 : Int32) h5
set_option maxHeartbeats 4000000 in
set_option maxRecDepth 200000 in
theorem p_C_passDays_105 (F : Nat) {h0 : MH} (k20 : (Option Nat) → Int32 → Int64 → Int32 → Int32 → MH → (Option (Int32 × MH))) (hk20 : ∀ (v0 : Option Nat) (v1 : Int32) (v3 : Int64) (v5 : Int32) (v6 : Int32) (h : MH) (r : (Int32 × MH)), k20 v0 v1 v3 v5 v6 h = some r → Rt mi_C_passDays 4 h0 20 [(0, va_rf v0), (1, .int v1), (3, .long v3), (5, .int v5), (6, .int v6)] [] h (some (.int r.1)) r.2) (v0 : Option Nat) (v1 : Int32) (v3 : Int64) (v5 : Int32) (v6 : Int32) (h : MH) (r : (Int32 × MH)) : b_C_passDays_105 F k20  v0 v1 v3 v5 v6 h = some r → Rt mi_C_passDays 4 h0 105 [(0, va_rf v0), (1, .int v1), (3, .long v3), (5, .int v5), (6, .int v6)] [] h (some (.int r.1)) r.2 := by
  intro hyp
  unfold b_C_passDays_105 at hyp
  refine rt_st (pc1 := 20) (fun _ _ B => go_iinc (v := (v6 + (1 : Int32))) (lv1 := [(6, .int (v6 + (1 : Int32))), (0, va_rf v0), (1, .int v1), (3, .long v3), (5, .int v5)]) 4 d_C_passDays_105 rfl rfl (by decide) rfl (go_goto 20 d_C_passDays_108 rfl B)) ?_
  refine rt_sub [1, 2, 3, 4, 0] (lv1 := [(0, va_rf v0), (1, .int v1), (3, .long v3), (5, .int v5), (6, .int (v6 + (1 : Int32)))]) rfl ?_
  exact hk20 _ _ _ _ _ _ _ hyp
set_option maxHeartbeats 4000000 in
set_option maxRecDepth 200000 in
theorem p_C_passDays_20 (F : Nat) {h0 : MH} : ∀ (n : Nat) (v0 : Option Nat) (v1 : Int32) (v3 : Int64) (v5 : Int32) (v6 : Int32) (h : MH) (r : (Int32 × MH)), b_C_passDays_20 F  n v0 v1 v3 v5 v6 h = some r → Rt mi_C_passDays 4 h0 20 [(0, va_rf v0), (1, .int v1), (3, .long v3), (5, .int v5), (6, .int v6)] [] h (some (.int r.1)) r.2 := by
  intro n
  induction n with
  | zero =>
    intro v0 v1 v3 v5 v6 h r hyp
    cases hyp
  | succ n ih =>
    intro v0 v1 v3 v5 v6 h r hyp
    unfold b_C_passDays_20 at hyp
    refine rt_st (pc1 := 23) (fun _ _ B => go_iload 4 d_C_passDays_20 rfl (go_iload_n 1 d_C_passDays_22 rfl B)) ?_
    by_cases c1 : v1 ≤ v6
    · replace hyp := (if_pos c1).symm.trans hyp
      refine rt_st (pc1 := 113) (fun _ _ B => go_icmp_ge_t 111 d_C_passDays_23 rfl c1 (go_iload 3 d_C_passDays_111 rfl B)) ?_
      exact rt_eqW Value.int hyp (rt_int d_C_passDays_113 rfl)
    · replace hyp := (if_neg c1).symm.trans hyp
      obtain ⟨x2, e3, hyp⟩ := Option.bind_eq_some_iff.mp hyp
      obtain ⟨x4, e5, hyp⟩ := Option.bind_eq_some_iff.mp hyp
      refine rt_st (pc1 := 33) (fun _ _ B => go_icmp_ge_f d_C_passDays_23 rfl c1 (go_aload_n 0 d_C_passDays_26 rfl (go_gfr d_C_passDays_27 fd_10_5 w280 e3 (go_gfi d_C_passDays_30 fd_1_8 w244 e5 B)))) ?_
      by_cases c6 : x4 ≤ 0
      · replace hyp := (if_pos c6).symm.trans hyp
        refine rt_st (pc1 := 113) (fun _ _ B => go_if_le_t 111 d_C_passDays_33 rfl c6 (go_iload 3 d_C_passDays_111 rfl B)) ?_
        exact rt_eqW Value.int hyp (rt_int d_C_passDays_113 rfl)
      · replace hyp := (if_neg c6).symm.trans hyp
        obtain ⟨x7, e8, hyp⟩ := Option.bind_eq_some_iff.mp hyp
        obtain ⟨x9, e10, hyp⟩ := Option.bind_eq_some_iff.mp hyp
        obtain ⟨x11, e12, hyp⟩ := Option.bind_eq_some_iff.mp hyp
        obtain ⟨_, e14, hyp⟩ := Option.bind_eq_some_iff.mp hyp
        obtain ⟨x15, e16, hyp⟩ := Option.bind_eq_some_iff.mp hyp
        refine rt_st (pc1 := 76) (fun _ _ B => go_if_le_f d_C_passDays_33 rfl c6 (go_lload_n 2 d_C_passDays_36 rfl (go_ldc2 (v := (16807 : Int64)) d_C_passDays_37 w863 (go_lmul d_C_passDays_40 (go_ldc2 (v := (2147483647 : Int64)) d_C_passDays_41 w864 (go_lrem d_C_passDays_44 (by decide) (go_lstore_n (lv1 := [(3, .long (mj_lrem (v3 * (16807 : Int64)) (2147483647 : Int64))), (0, va_rf v0), (1, .int v1), (5, .int v5), (6, .int v6)]) d_C_passDays_45 (by decide) rfl (go_aload_n 1 d_C_passDays_46 rfl (go_gfr d_C_passDays_47 fd_10_5 w280 e8 (go_lload_n 0 d_C_passDays_50 rfl (go_aload_n 1 d_C_passDays_51 rfl (go_gfr d_C_passDays_52 fd_10_5 w280 e10 (go_gfi d_C_passDays_55 fd_1_8 w244 e12 (go_i2l d_C_passDays_58 (go_lrem d_C_passDays_59 (mj_nzl_spec e14) (go_l2i d_C_passDays_60 (go_callV1 (q := q_1) (st := []) [.int (Int64.toInt32 (mj_lrem (mj_lrem (v3 * (16807 : Int64)) (2147483647 : Int64)) (Int32.toInt64 x11)))] (t_B_handAt x7 (Int64.toInt32 (mj_lrem (mj_lrem (v3 * (16807 : Int64)) (2147483647 : Int64)) (Int32.toInt64 x11))) h _ (onc_spec e16).2) mm_B_handAt (by decide) d_C_passDays_61 (onc_spec e16).1 rfl rfl w567 w568 w569 rfl (Nat.le_of_ble_eq_true rfl) rfl (go_astore (lv1 := [(7, va_rf x15), (3, .long (mj_lrem (v3 * (16807 : Int64)) (2147483647 : Int64))), (0, va_rf v0), (1, .int v1), (5, .int v5), (6, .int v6)]) d_C_passDays_64 (by decide) rfl (go_lload_n 1 d_C_passDays_66 rfl (go_ldc2 (v := (8 : Int64)) d_C_passDays_67 w865 (go_lrem d_C_passDays_70 (by decide) (go_l2i d_C_passDays_71 (go_istore (lv1 := [(8, .int (Int64.toInt32 (mj_lrem (mj_lrem (v3 * (16807 : Int64)) (2147483647 : Int64)) (8 : Int64)))), (7, va_rf x15), (3, .long (mj_lrem (v3 * (16807 : Int64)) (2147483647 : Int64))), (0, va_rf v0), (1, .int v1), (5, .int v5), (6, .int v6)]) d_C_passDays_72 (by decide) (by first | (simp [mj_s1, mj_s2, mj_rfc, mj_cti, mj_ctl]; done) | (simp [mj_s1, mj_s2, mj_rfc, mj_cti, mj_ctl]; decide)) (go_aload 1 d_C_passDays_74 rfl B)))))))))))))))))))))))) ?_
        by_cases c17 : x15 = none
        · replace hyp := (if_pos c17).symm.trans hyp
          refine rt_st (pc1 := 105) (fun _ _ B => go_ifnull_t 105 d_C_passDays_76 rfl c17 B) ?_
          refine rt_sub [3, 4, 2, 5, 6] (lv1 := [(0, va_rf v0), (1, .int v1), (3, .long (mj_lrem (v3 * (16807 : Int64)) (2147483647 : Int64))), (5, .int v5), (6, .int v6)]) rfl ?_
          exact p_C_passDays_105 F (b_C_passDays_20 F n) (fun a0 a1 a2 a3 a4 a5 r hyp => ih a0 a1 a2 a3 a4 a5 r hyp) _ _ _ _ _ _ r hyp
        · replace hyp := (if_neg c17).symm.trans hyp
          obtain ⟨x18, e19, hyp⟩ := Option.bind_eq_some_iff.mp hyp
          obtain ⟨x20, e21, hyp⟩ := Option.bind_eq_some_iff.mp hyp
          refine rt_st (pc1 := 90) (fun _ _ B => go_ifnull_f d_C_passDays_76 rfl c17 (go_aload_n 3 d_C_passDays_79 rfl (go_gfr d_C_passDays_80 fd_10_5 w280 e19 (go_aload 1 d_C_passDays_83 rfl (go_iload 0 d_C_passDays_85 rfl (go_callV1 (q := q_1) (st := []) [va_rf x15, .int (Int64.toInt32 (mj_lrem (mj_lrem (v3 * (16807 : Int64)) (2147483647 : Int64)) (8 : Int64)))] (t_B_canMake x18 x15 (Int64.toInt32 (mj_lrem (mj_lrem (v3 * (16807 : Int64)) (2147483647 : Int64)) (8 : Int64))) h _ (onc_spec e21).2) mm_B_canMake (by decide) d_C_passDays_87 (onc_spec e21).1 rfl rfl w571 w572 w573 rfl (Nat.le_of_ble_eq_true rfl) rfl B)))))) ?_
          by_cases c22 : x20 = 0
          · replace hyp := (if_pos c22).symm.trans hyp
            refine rt_st (pc1 := 105) (fun _ _ B => go_if_eq_t 105 d_C_passDays_90 rfl c22 B) ?_
            refine rt_sub [3, 4, 2, 5, 6] (lv1 := [(0, va_rf v0), (1, .int v1), (3, .long (mj_lrem (v3 * (16807 : Int64)) (2147483647 : Int64))), (5, .int v5), (6, .int v6)]) rfl ?_
            exact p_C_passDays_105 F (b_C_passDays_20 F n) (fun a0 a1 a2 a3 a4 a5 r hyp => ih a0 a1 a2 a3 a4 a5 r hyp) _ _ _ _ _ _ r hyp
          · replace hyp := (if_neg c22).symm.trans hyp
            obtain ⟨x23, e24, hyp⟩ := Option.bind_eq_some_iff.mp hyp
            obtain ⟨h25, e26, hyp⟩ := Option.bind_eq_some_iff.mp hyp
            refine rt_st (pc1 := 105) (fun _ _ B => go_if_eq_f d_C_passDays_90 rfl c22 (go_aload_n 3 d_C_passDays_93 rfl (go_gfr d_C_passDays_94 fd_10_5 w280 e24 (go_iload 0 d_C_passDays_97 rfl (go_callV0 (q := q_1) (st := []) [.int (Int64.toInt32 (mj_lrem (mj_lrem (v3 * (16807 : Int64)) (2147483647 : Int64)) (8 : Int64)))] (t_B_make x23 (Int64.toInt32 (mj_lrem (mj_lrem (v3 * (16807 : Int64)) (2147483647 : Int64)) (8 : Int64))) h _ (onc_spec e26).2) mm_B_make (by decide) d_C_passDays_99 (onc_spec e26).1 rfl rfl w639 w640 w641 rfl (Nat.le_of_ble_eq_true rfl) rfl (go_iinc (v := (v5 + (1 : Int32))) (lv1 := [(5, .int (v5 + (1 : Int32))), (8, .int (Int64.toInt32 (mj_lrem (mj_lrem (v3 * (16807 : Int64)) (2147483647 : Int64)) (8 : Int64)))), (7, va_rf x15), (3, .long (mj_lrem (v3 * (16807 : Int64)) (2147483647 : Int64))), (0, va_rf v0), (1, .int v1), (6, .int v6)]) 5 d_C_passDays_102 rfl rfl (by decide) rfl B)))))) ?_
            refine rt_sub [4, 5, 3, 0, 6] (lv1 := [(0, va_rf v0), (1, .int v1), (3, .long (mj_lrem (v3 * (16807 : Int64)) (2147483647 : Int64))), (5, .int (v5 + (1 : Int32))), (6, .int v6)]) rfl ?_
            exact p_C_passDays_105 F (b_C_passDays_20 F n) (fun a0 a1 a2 a3 a4 a5 r hyp => ih a0 a1 a2 a3 a4 a5 r hyp) _ _ _ _ _ _ r hyp
set_option maxHeartbeats 4000000 in
set_option maxRecDepth 200000 in
theorem t_C_passDays (F : Nat) (v0 : Option Nat) (v1 : Int32) (v2 : Int32) (h : MH) (r : (Int32 × MH)) (hyp : f_C_passDays F v0 v1 v2 h = some r) : Mt mi_C_passDays 4 [va_rf v0, .int v1, .int v2] h (some (.int r.1)) r.2 := by
  refine Mt.rt (lv := [(0, va_rf v0), (1, .int v1), (2, .int v2)]) (by decide +kernel) (by simp [lv_args, mj_rfc, mj_cti, mj_ctl]) (by simp [mj_rfc, mj_cti, mj_ctl]) ?_
  unfold f_C_passDays at hyp
  obtain ⟨x1, e2, hyp⟩ := Option.bind_eq_some_iff.mp hyp
  obtain ⟨x3, e4, hyp⟩ := Option.bind_eq_some_iff.mp hyp
  obtain ⟨h5, e6, hyp⟩ := Option.bind_eq_some_iff.mp hyp
  refine rt_st (pc1 := 20) (fun _ _ B => go_aload_n 0 d_C_passDays_0 rfl (go_gfr d_C_passDays_1 fd_10_5 w280 e2 (go_aload_n 0 d_C_passDays_4 rfl (go_gfr d_C_passDays_5 fd_10_4 w279 e4 (go_callV0 (q := q_1) (st := []) [va_rf x3] (t_B_become F x1 x3 h _ (onc_spec e6).2) mm_B_become (by decide) d_C_passDays_8 (onc_spec e6).1 rfl rfl w526 w527 w528 rfl (Nat.le_of_ble_eq_true rfl) rfl (go_iload_n 2 d_C_passDays_11 rfl (go_i2l d_C_passDays_12 (go_lstore_n (lv1 := [(3, .long (Int32.toInt64 v2)), (0, va_rf v0), (1, .int v1), (2, .int v2)]) d_C_passDays_13 (by decide) rfl (go_iconst (v := (0 : Int32)) d_C_passDays_14 (by decide) (go_istore (lv1 := [(5, .int (0 : Int32)), (3, .long (Int32.toInt64 v2)), (0, va_rf v0), (1, .int v1), (2, .int v2)]) d_C_passDays_15 (by decide) rfl (go_iconst (v := (0 : Int32)) d_C_passDays_17 (by decide) (go_istore (lv1 := [(6, .int (0 : Int32)), (5, .int (0 : Int32)), (3, .long (Int32.toInt64 v2)), (0, va_rf v0), (1, .int v1), (2, .int v2)]) d_C_passDays_18 (by decide) rfl B)))))))))))) ?_
  refine rt_sub [3, 4, 2, 1, 0] (lv1 := [(0, va_rf v0), (1, .int v1), (3, .long (Int32.toInt64 v2)), (5, .int (0 : Int32)), (6, .int (0 : Int32))]) rfl ?_
  exact p_C_passDays_20 F F _ _ _ _ _ _ r hyp
/-! WideTurn.days(III)I -/
def f_C_days (F : Nat) (v0 : Option Nat) (v1 : Int32) (v2 : Int32) (v3 : Int32) (h : MH) : Option (Int32 × MH) :=
  Option.bind (gfi h v0 [10] 8) fun x1 =>
  if x1 = 0 then
    some ((-1000002 : Int32), h)
  else
    if v1 < 0 then
      some ((-1000001 : Int32), h)
    else
      if (60 : Int32) < v1 then
        some ((-1000001 : Int32), h)
      else
        if v2 < (1 : Int32) then
          some ((-1000001 : Int32), h)
        else
          if (999999 : Int32) < v2 then
            some ((-1000001 : Int32), h)
          else
            if (f_C_within v3 (2 : Int32)) = 0 then
              some ((-1000001 : Int32), h)
            else
              Option.bind (onc h v0 10 (f_C_passDays F v0 v1 v2 h)) fun x9 =>
              if v3 = 0 then
                Option.bind (gfr x9.2 v0 [10] 5) fun x12 =>
                Option.bind (gfi x9.2 x12 [1] 3) fun x14 =>
                Option.bind (gfr x9.2 v0 [10] 5) fun x16 =>
                Option.bind (gfi x9.2 x16 [1] 4) fun x18 =>
                some ((((10 : Int32) * x14) + x18), x9.2)
              else
                some (x9.1, x9.2)
set_option maxHeartbeats 4000000 in
set_option maxRecDepth 200000 in
theorem t_C_days (F : Nat) (v0 : Option Nat) (v1 : Int32) (v2 : Int32) (v3 : Int32) (h : MH) (r : (Int32 × MH)) (hyp : f_C_days F v0 v1 v2 v3 h = some r) : Mt mi_C_days 5 [va_rf v0, .int v1, .int v2, .int v3] h (some (.int r.1)) r.2 := by
  refine Mt.rt (lv := [(0, va_rf v0), (1, .int v1), (2, .int v2), (3, .int v3)]) (by decide +kernel) (by simp [lv_args, mj_rfc, mj_cti, mj_ctl]) (by simp [mj_rfc, mj_cti, mj_ctl]) ?_
  unfold f_C_days at hyp
  obtain ⟨x1, e2, hyp⟩ := Option.bind_eq_some_iff.mp hyp
  refine rt_st (pc1 := 4) (fun _ _ B => go_aload_n 0 d_C_days_0 rfl (go_gfi d_C_days_1 fd_10_8 w283 e2 B)) ?_
  by_cases c3 : x1 = 0
  · replace hyp := (if_pos c3).symm.trans hyp
    refine rt_st (pc1 := 9) (fun _ _ B => go_if_ne_f d_C_days_4 rfl c3 (go_ldc (v := (-1000002 : Int32)) d_C_days_7 w552 B)) ?_
    exact rt_eqW Value.int hyp (rt_int d_C_days_9 rfl)
  · replace hyp := (if_neg c3).symm.trans hyp
    refine rt_st (pc1 := 11) (fun _ _ B => go_if_ne_t 10 d_C_days_4 rfl c3 (go_iload_n 1 d_C_days_10 rfl B)) ?_
    by_cases c4 : v1 < 0
    · replace hyp := (if_pos c4).symm.trans hyp
      refine rt_st (pc1 := 42) (fun _ _ B => go_if_lt_t 40 d_C_days_11 rfl c4 (go_ldc (v := (-1000001 : Int32)) d_C_days_40 w316 B)) ?_
      exact rt_eqW Value.int hyp (rt_int d_C_days_42 rfl)
    · replace hyp := (if_neg c4).symm.trans hyp
      refine rt_st (pc1 := 17) (fun _ _ B => go_if_lt_f d_C_days_11 rfl c4 (go_iload_n 1 d_C_days_14 rfl (go_bipush (v := (60 : Int32)) d_C_days_15 (by decide) B))) ?_
      by_cases c5 : (60 : Int32) < v1
      · replace hyp := (if_pos c5).symm.trans hyp
        refine rt_st (pc1 := 42) (fun _ _ B => go_icmp_gt_t 40 d_C_days_17 rfl c5 (go_ldc (v := (-1000001 : Int32)) d_C_days_40 w316 B)) ?_
        exact rt_eqW Value.int hyp (rt_int d_C_days_42 rfl)
      · replace hyp := (if_neg c5).symm.trans hyp
        refine rt_st (pc1 := 22) (fun _ _ B => go_icmp_gt_f d_C_days_17 rfl c5 (go_iload_n 2 d_C_days_20 rfl (go_iconst (v := (1 : Int32)) d_C_days_21 (by decide) B))) ?_
        by_cases c6 : v2 < (1 : Int32)
        · replace hyp := (if_pos c6).symm.trans hyp
          refine rt_st (pc1 := 42) (fun _ _ B => go_icmp_lt_t 40 d_C_days_22 rfl c6 (go_ldc (v := (-1000001 : Int32)) d_C_days_40 w316 B)) ?_
          exact rt_eqW Value.int hyp (rt_int d_C_days_42 rfl)
        · replace hyp := (if_neg c6).symm.trans hyp
          refine rt_st (pc1 := 29) (fun _ _ B => go_icmp_lt_f d_C_days_22 rfl c6 (go_iload_n 2 d_C_days_25 rfl (go_ldcw (v := (999999 : Int32)) d_C_days_26 w858 B))) ?_
          by_cases c7 : (999999 : Int32) < v2
          · replace hyp := (if_pos c7).symm.trans hyp
            refine rt_st (pc1 := 42) (fun _ _ B => go_icmp_gt_t 40 d_C_days_29 rfl c7 (go_ldc (v := (-1000001 : Int32)) d_C_days_40 w316 B)) ?_
            exact rt_eqW Value.int hyp (rt_int d_C_days_42 rfl)
          · replace hyp := (if_neg c7).symm.trans hyp
            refine rt_st (pc1 := 37) (fun _ _ B => go_icmp_gt_f d_C_days_29 rfl c7 (go_iload_n 3 d_C_days_32 rfl (go_iconst (v := (2 : Int32)) d_C_days_33 (by decide) (go_callS1 (st := []) [.int v3, .int (2 : Int32)] (t_C_within v3 (2 : Int32) h) mm_C_within (by decide) d_C_days_34 w313 w314 rfl (Nat.le_of_ble_eq_true rfl) rfl B)))) ?_
            by_cases c8 : (f_C_within v3 (2 : Int32)) = 0
            · replace hyp := (if_pos c8).symm.trans hyp
              refine rt_st (pc1 := 42) (fun _ _ B => go_if_ne_f d_C_days_37 rfl c8 (go_ldc (v := (-1000001 : Int32)) d_C_days_40 w316 B)) ?_
              exact rt_eqW Value.int hyp (rt_int d_C_days_42 rfl)
            · replace hyp := (if_neg c8).symm.trans hyp
              obtain ⟨x9, e10, hyp⟩ := Option.bind_eq_some_iff.mp hyp
              refine rt_st (pc1 := 52) (fun _ _ B => go_if_ne_t 43 d_C_days_37 rfl c8 (go_aload_n 0 d_C_days_43 rfl (go_iload_n 1 d_C_days_44 rfl (go_iload_n 2 d_C_days_45 rfl (go_callV1 (q := q_10) (st := []) [.int v1, .int v2] (t_C_passDays F v0 v1 v2 h _ (onc_spec e10).2) mm_C_passDays (by decide) d_C_days_46 (onc_spec e10).1 rfl rfl w859 w861 w28 rfl (Nat.le_of_ble_eq_true rfl) rfl (go_istore (lv1 := [(4, .int x9.1), (0, va_rf v0), (1, .int v1), (2, .int v2), (3, .int v3)]) d_C_days_49 (by decide) rfl (go_iload_n 4 d_C_days_51 rfl B))))))) ?_
              by_cases c11 : v3 = 0
              · replace hyp := (if_pos c11).symm.trans hyp
                obtain ⟨x12, e13, hyp⟩ := Option.bind_eq_some_iff.mp hyp
                obtain ⟨x14, e15, hyp⟩ := Option.bind_eq_some_iff.mp hyp
                obtain ⟨x16, e17, hyp⟩ := Option.bind_eq_some_iff.mp hyp
                obtain ⟨x18, e19, hyp⟩ := Option.bind_eq_some_iff.mp hyp
                refine rt_st (pc1 := 78) (fun _ _ B => go_if_ne_f d_C_days_52 rfl c11 (go_bipush (v := (10 : Int32)) d_C_days_55 (by decide) (go_aload_n 1 d_C_days_57 rfl (go_gfr d_C_days_58 fd_10_5 w280 e13 (go_gfi d_C_days_61 fd_1_3 w226 e15 (go_imul d_C_days_64 (go_aload_n 1 d_C_days_65 rfl (go_gfr d_C_days_66 fd_10_5 w280 e17 (go_gfi d_C_days_69 fd_1_4 w231 e19 (go_iadd d_C_days_72 (go_goto 78 d_C_days_73 rfl B))))))))))) ?_
                exact rt_eqW Value.int hyp (rt_int d_C_days_78 rfl)
              · replace hyp := (if_neg c11).symm.trans hyp
                refine rt_st (pc1 := 78) (fun _ _ B => go_if_ne_t 76 d_C_days_52 rfl c11 (go_iload 0 d_C_days_76 rfl B)) ?_
                exact rt_eqW Value.int hyp (rt_int d_C_days_78 rfl)
/-! WideTurn.image(I)I -/
def b_C_image_51 (F : Nat) : (Option Nat) → (Option Nat) → (MH) → (Option (Int32 × MH)) := fun v0 v2 h => 
  Option.bind (gfr h v0 [10] 4) fun x1 =>
  Option.bind (onc h v2 1 (f_B_become F v2 x1 h)) fun h3 =>
  some ((1 : Int32), h3)
def f_C_image (F : Nat) (v0 : Option Nat) (v1 : Int32) (h : MH) : Option (Int32 × MH) :=
  Option.bind (gfr h v0 [10] 6) fun x1 =>
  Option.bind (alen h x1) fun x3 =>
  if (f_C_within v1 x3) = 0 then
    some ((-1000001 : Int32), h)
  else
    Option.bind (gfi h v0 [10] 8) fun x6 =>
    if x6 = 0 then
      some ((-1000002 : Int32), h)
    else
      Option.bind (gfr h v0 [10] 6) fun x9 =>
      Option.bind (qld h x9 3 v1) fun x11 =>
      if x11 = none then
        Option.bind (newO h 1) fun h14 =>
        Option.bind (f_B_init (some h.2.1) h14) fun h16 =>
        Option.bind (gfr h16 v0 [10] 6) fun x18 =>
        Option.bind (qst h16 x18 3 [1] v1 (some h.2.1)) fun h20 =>
        b_C_image_51 F v0 (some h.2.1) h20
      else
        b_C_image_51 F v0 x11 h
set_option maxHeartbeats 4000000 in
set_option maxRecDepth 200000 in
theorem p_C_image_51 (F : Nat) {h0 : MH} (v0 : Option Nat) (v2 : Option Nat) (h : MH) (r : (Int32 × MH)) : b_C_image_51 F  v0 v2 h = some r → Rt mi_C_image 3 h0 51 [(0, va_rf v0), (2, va_rf v2)] [] h (some (.int r.1)) r.2 := by
  intro hyp
  unfold b_C_image_51 at hyp
  obtain ⟨x1, e2, hyp⟩ := Option.bind_eq_some_iff.mp hyp
  obtain ⟨h3, e4, hyp⟩ := Option.bind_eq_some_iff.mp hyp
  refine rt_st (pc1 := 60) (fun _ _ B => go_aload_n 1 d_C_image_51 rfl (go_aload_n 0 d_C_image_52 rfl (go_gfr d_C_image_53 fd_10_4 w279 e2 (go_callV0 (q := q_1) (st := []) [va_rf x1] (t_B_become F v2 x1 h _ (onc_spec e4).2) mm_B_become (by decide) d_C_image_56 (onc_spec e4).1 rfl rfl w526 w527 w528 rfl (Nat.le_of_ble_eq_true rfl) rfl (go_iconst (v := (1 : Int32)) d_C_image_59 (by decide) B))))) ?_
  exact rt_eqW Value.int hyp (rt_int d_C_image_60 rfl)
set_option maxHeartbeats 4000000 in
set_option maxRecDepth 200000 in
theorem t_C_image (F : Nat) (v0 : Option Nat) (v1 : Int32) (h : MH) (r : (Int32 × MH)) (hyp : f_C_image F v0 v1 h = some r) : Mt mi_C_image 3 [va_rf v0, .int v1] h (some (.int r.1)) r.2 := by
  refine Mt.rt (lv := [(0, va_rf v0), (1, .int v1)]) (by decide +kernel) (by simp [lv_args, mj_rfc, mj_cti, mj_ctl]) (by simp [mj_rfc, mj_cti, mj_ctl]) ?_
  unfold f_C_image at hyp
  obtain ⟨x1, e2, hyp⟩ := Option.bind_eq_some_iff.mp hyp
  obtain ⟨x3, e4, hyp⟩ := Option.bind_eq_some_iff.mp hyp
  refine rt_st (pc1 := 9) (fun _ _ B => go_iload_n 1 d_C_image_0 rfl (go_aload_n 0 d_C_image_1 rfl (go_gfr d_C_image_2 fd_10_6 w281 e2 (go_alen d_C_image_5 e4 (go_callS1 (st := []) [.int v1, .int x3] (t_C_within v1 x3 h) mm_C_within (by decide) d_C_image_6 w313 w314 rfl (Nat.le_of_ble_eq_true rfl) rfl B))))) ?_
  by_cases c5 : (f_C_within v1 x3) = 0
  · replace hyp := (if_pos c5).symm.trans hyp
    refine rt_st (pc1 := 14) (fun _ _ B => go_if_ne_f d_C_image_9 rfl c5 (go_ldc (v := (-1000001 : Int32)) d_C_image_12 w316 B)) ?_
    exact rt_eqW Value.int hyp (rt_int d_C_image_14 rfl)
  · replace hyp := (if_neg c5).symm.trans hyp
    obtain ⟨x6, e7, hyp⟩ := Option.bind_eq_some_iff.mp hyp
    refine rt_st (pc1 := 19) (fun _ _ B => go_if_ne_t 15 d_C_image_9 rfl c5 (go_aload_n 0 d_C_image_15 rfl (go_gfi d_C_image_16 fd_10_8 w283 e7 B))) ?_
    by_cases c8 : x6 = 0
    · replace hyp := (if_pos c8).symm.trans hyp
      refine rt_st (pc1 := 24) (fun _ _ B => go_if_ne_f d_C_image_19 rfl c8 (go_ldc (v := (-1000002 : Int32)) d_C_image_22 w552 B)) ?_
      exact rt_eqW Value.int hyp (rt_int d_C_image_24 rfl)
    · replace hyp := (if_neg c8).symm.trans hyp
      obtain ⟨x9, e10, hyp⟩ := Option.bind_eq_some_iff.mp hyp
      obtain ⟨x11, e12, hyp⟩ := Option.bind_eq_some_iff.mp hyp
      refine rt_st (pc1 := 33) (fun _ _ B => go_if_ne_t 25 d_C_image_19 rfl c8 (go_aload_n 0 d_C_image_25 rfl (go_gfr d_C_image_26 fd_10_6 w281 e10 (go_iload_n 1 d_C_image_29 rfl (go_qld (by decide) d_C_image_30 e12 (go_astore_n (lv1 := [(2, va_rf x11), (0, va_rf v0), (1, .int v1)]) d_C_image_31 (by decide) rfl (go_aload_n 0 d_C_image_32 rfl B))))))) ?_
      by_cases c13 : x11 = none
      · replace hyp := (if_pos c13).symm.trans hyp
        obtain ⟨h14, e15, hyp⟩ := Option.bind_eq_some_iff.mp hyp
        obtain ⟨h16, e17, hyp⟩ := Option.bind_eq_some_iff.mp hyp
        obtain ⟨x18, e19, hyp⟩ := Option.bind_eq_some_iff.mp hyp
        obtain ⟨h20, e21, hyp⟩ := Option.bind_eq_some_iff.mp hyp
        refine rt_st (pc1 := 51) (fun _ _ B => go_ifnonnull_f d_C_image_33 rfl c13 (go_newO (ci := 1) (q := q_1) d_C_image_36 rfl o_1_ok (fun _ => rfl) w205 w206 w59 e15 (go_dup d_C_image_39 (mj_rfc _) (go_callIN (st := [va_rf (some h.2.1)]) [] (t_B_init (some h.2.1) h14 _ e17) mm_B_init rfl (by decide) d_C_image_40 w207 w208 rfl rfl (Nat.le_of_ble_eq_true rfl) rfl (go_astore_n (lv1 := [(2, va_rf (some h.2.1)), (0, va_rf v0), (1, .int v1)]) d_C_image_43 (by decide) rfl (go_aload_n 1 d_C_image_44 rfl (go_gfr d_C_image_45 fd_10_6 w281 e19 (go_iload_n 2 d_C_image_48 rfl (go_aload_n 0 d_C_image_49 rfl (go_qst (cs := [1]) (by decide) mj_fit3 d_C_image_50 e21 B)))))))))) ?_
        refine rt_sub [1, 0] (lv1 := [(0, va_rf v0), (2, va_rf (some h.2.1))]) rfl ?_
        exact p_C_image_51 F _ _ _ r hyp
      · replace hyp := (if_neg c13).symm.trans hyp
        refine rt_st (pc1 := 51) (fun _ _ B => go_ifnonnull_t 51 d_C_image_33 rfl c13 B) ?_
        refine rt_sub [1, 0] (lv1 := [(0, va_rf v0), (2, va_rf x11)]) rfl ?_
        exact p_C_image_51 F _ _ _ r hyp
/-! WideTurn.restore(I)I -/
def f_C_restore (F : Nat) (v0 : Option Nat) (v1 : Int32) (h : MH) : Option (Int32 × MH) :=
  Option.bind (gfr h v0 [10] 6) fun x1 =>
  Option.bind (alen h x1) fun x3 =>
  if (f_C_within v1 x3) = 0 then
    some ((-1000001 : Int32), h)
  else
    Option.bind (gfr h v0 [10] 6) fun x6 =>
    Option.bind (qld h x6 3 v1) fun x8 =>
    if x8 = none then
      some ((-1000002 : Int32), h)
    else
      Option.bind (gfr h v0 [10] 4) fun x11 =>
      Option.bind (onc h x11 1 (f_B_become F x11 x8 h)) fun h13 =>
      Option.bind (gfr h13 v0 [10] 2) fun x15 =>
      Option.bind (onc h13 x15 0 (f_A_forget x15 h13)) fun h17 =>
      some ((1 : Int32), h17)
set_option maxHeartbeats 4000000 in
set_option maxRecDepth 200000 in
theorem t_C_restore (F : Nat) (v0 : Option Nat) (v1 : Int32) (h : MH) (r : (Int32 × MH)) (hyp : f_C_restore F v0 v1 h = some r) : Mt mi_C_restore 3 [va_rf v0, .int v1] h (some (.int r.1)) r.2 := by
  refine Mt.rt (lv := [(0, va_rf v0), (1, .int v1)]) (by decide +kernel) (by simp [lv_args, mj_rfc, mj_cti, mj_ctl]) (by simp [mj_rfc, mj_cti, mj_ctl]) ?_
  unfold f_C_restore at hyp
  obtain ⟨x1, e2, hyp⟩ := Option.bind_eq_some_iff.mp hyp
  obtain ⟨x3, e4, hyp⟩ := Option.bind_eq_some_iff.mp hyp
  refine rt_st (pc1 := 9) (fun _ _ B => go_iload_n 1 d_C_restore_0 rfl (go_aload_n 0 d_C_restore_1 rfl (go_gfr d_C_restore_2 fd_10_6 w281 e2 (go_alen d_C_restore_5 e4 (go_callS1 (st := []) [.int v1, .int x3] (t_C_within v1 x3 h) mm_C_within (by decide) d_C_restore_6 w313 w314 rfl (Nat.le_of_ble_eq_true rfl) rfl B))))) ?_
  by_cases c5 : (f_C_within v1 x3) = 0
  · replace hyp := (if_pos c5).symm.trans hyp
    refine rt_st (pc1 := 14) (fun _ _ B => go_if_ne_f d_C_restore_9 rfl c5 (go_ldc (v := (-1000001 : Int32)) d_C_restore_12 w316 B)) ?_
    exact rt_eqW Value.int hyp (rt_int d_C_restore_14 rfl)
  · replace hyp := (if_neg c5).symm.trans hyp
    obtain ⟨x6, e7, hyp⟩ := Option.bind_eq_some_iff.mp hyp
    obtain ⟨x8, e9, hyp⟩ := Option.bind_eq_some_iff.mp hyp
    refine rt_st (pc1 := 23) (fun _ _ B => go_if_ne_t 15 d_C_restore_9 rfl c5 (go_aload_n 0 d_C_restore_15 rfl (go_gfr d_C_restore_16 fd_10_6 w281 e7 (go_iload_n 1 d_C_restore_19 rfl (go_qld (by decide) d_C_restore_20 e9 (go_astore_n (lv1 := [(2, va_rf x8), (0, va_rf v0), (1, .int v1)]) d_C_restore_21 (by decide) rfl (go_aload_n 0 d_C_restore_22 rfl B))))))) ?_
    by_cases c10 : x8 = none
    · replace hyp := (if_pos c10).symm.trans hyp
      refine rt_st (pc1 := 28) (fun _ _ B => go_ifnonnull_f d_C_restore_23 rfl c10 (go_ldc (v := (-1000002 : Int32)) d_C_restore_26 w552 B)) ?_
      exact rt_eqW Value.int hyp (rt_int d_C_restore_28 rfl)
    · replace hyp := (if_neg c10).symm.trans hyp
      obtain ⟨x11, e12, hyp⟩ := Option.bind_eq_some_iff.mp hyp
      obtain ⟨h13, e14, hyp⟩ := Option.bind_eq_some_iff.mp hyp
      obtain ⟨x15, e16, hyp⟩ := Option.bind_eq_some_iff.mp hyp
      obtain ⟨h17, e18, hyp⟩ := Option.bind_eq_some_iff.mp hyp
      refine rt_st (pc1 := 45) (fun _ _ B => go_ifnonnull_t 29 d_C_restore_23 rfl c10 (go_aload_n 1 d_C_restore_29 rfl (go_gfr d_C_restore_30 fd_10_4 w279 e12 (go_aload_n 0 d_C_restore_33 rfl (go_callV0 (q := q_1) (st := []) [va_rf x8] (t_B_become F x11 x8 h _ (onc_spec e14).2) mm_B_become (by decide) d_C_restore_34 (onc_spec e14).1 rfl rfl w526 w527 w528 rfl (Nat.le_of_ble_eq_true rfl) rfl (go_aload_n 1 d_C_restore_37 rfl (go_gfr d_C_restore_38 fd_10_2 w277 e16 (go_callV0 (q := q_0) (st := []) [] (t_A_forget x15 h13 _ (onc_spec e18).2) mm_A_forget (by decide) d_C_restore_41 (onc_spec e18).1 rfl rfl w532 w533 w534 rfl (Nat.le_of_ble_eq_true rfl) rfl (go_iconst (v := (1 : Int32)) d_C_restore_44 (by decide) B))))))))) ?_
      exact rt_eqW Value.int hyp (rt_int d_C_restore_45 rfl)
/-! WideTurn.kind(I)I -/
def v_H_sort (o : Option Nat) (h : MH) : Option (Int32) :=
  if cls h o = some 2 then some (f_Lf_sort o) else
  if cls h o = some 3 then some (f_Po_sort o) else
  if cls h o = some 4 then some (f_Ro_sort o) else
  if cls h o = some 7 then some (f_Sh_sort o) else
  if cls h o = some 8 then some (f_Sw_sort o) else
  none
def f_C_kind (v0 : Option Nat) (v1 : Int32) (h : MH) : Option (Int32) :=
  Option.bind (gfr h v0 [10] 4) fun x1 =>
  Option.bind (onc h x1 1 (f_B_handAt x1 v1 h)) fun x3 =>
  if x3 = none then
    some (-1000001 : Int32)
  else
    Option.bind (v_H_sort x3 h) fun x6 =>
    some x6
set_option maxHeartbeats 4000000 in
set_option maxRecDepth 200000 in
theorem vs_C_kind_19 {h0 : MH} (h : MH) {o : Option Nat} {pc2 : Nat} {lv lv2 : List (Nat × Value)} {st st2 : List Value} {h2 : MH} {x : Int32} (e : v_H_sort o h = some x) (hst : st.length ≤ 4) (B : Go mi_C_kind 3 h0 (19 + 3) lv (.int x :: st) h pc2 lv2 st2 h2) : Go mi_C_kind 3 h0 19 lv (va_rf o :: st) h pc2 lv2 st2 h2 := by
  unfold v_H_sort at e
  by_cases c2 : cls h o = some 2
  · replace e := (if_pos c2).symm.trans e
    cases e
    exact go_callU1 (q := q_2) [] (t_Lf_sort o h) mm_Lf_sort (by decide) d_C_kind_19 c2 rfl w878 w880 (Or.inr w879) (by decide +kernel) w881 w882 rfl hst rfl B
  replace e := (if_neg c2).symm.trans e
  by_cases c3 : cls h o = some 3
  · replace e := (if_pos c3).symm.trans e
    cases e
    exact go_callU1 (q := q_3) [] (t_Po_sort o h) mm_Po_sort (by decide) d_C_kind_19 c3 rfl w878 w880 (Or.inr w879) (by decide +kernel) w884 w885 rfl hst rfl B
  replace e := (if_neg c3).symm.trans e
  by_cases c4 : cls h o = some 4
  · replace e := (if_pos c4).symm.trans e
    cases e
    exact go_callU1 (q := q_4) [] (t_Ro_sort o h) mm_Ro_sort (by decide) d_C_kind_19 c4 rfl w878 w880 (Or.inr w879) (by decide +kernel) w887 w888 rfl hst rfl B
  replace e := (if_neg c4).symm.trans e
  by_cases c7 : cls h o = some 7
  · replace e := (if_pos c7).symm.trans e
    cases e
    exact go_callU1 (q := q_7) [] (t_Sh_sort o h) mm_Sh_sort (by decide) d_C_kind_19 c7 rfl w878 w880 (Or.inr w879) (by decide +kernel) w890 w891 rfl hst rfl B
  replace e := (if_neg c7).symm.trans e
  by_cases c8 : cls h o = some 8
  · replace e := (if_pos c8).symm.trans e
    cases e
    exact go_callU1 (q := q_8) [] (t_Sw_sort o h) mm_Sw_sort (by decide) d_C_kind_19 c8 rfl w878 w880 (Or.inr w879) (by decide +kernel) w893 w894 rfl hst rfl B
  replace e := (if_neg c8).symm.trans e
  cases e
set_option maxHeartbeats 4000000 in
set_option maxRecDepth 200000 in
theorem t_C_kind (v0 : Option Nat) (v1 : Int32) (h : MH) (r : (Int32)) (hyp : f_C_kind v0 v1 h = some r) : Mt mi_C_kind 3 [va_rf v0, .int v1] h (some (.int r)) h := by
  refine Mt.rt (lv := [(0, va_rf v0), (1, .int v1)]) (by decide +kernel) (by simp [lv_args, mj_rfc, mj_cti, mj_ctl]) (by simp [mj_rfc, mj_cti, mj_ctl]) ?_
  unfold f_C_kind at hyp
  obtain ⟨x1, e2, hyp⟩ := Option.bind_eq_some_iff.mp hyp
  obtain ⟨x3, e4, hyp⟩ := Option.bind_eq_some_iff.mp hyp
  refine rt_st (pc1 := 10) (fun _ _ B => go_aload_n 0 d_C_kind_0 rfl (go_gfr d_C_kind_1 fd_10_4 w279 e2 (go_iload_n 1 d_C_kind_4 rfl (go_callV1 (q := q_1) (st := []) [.int v1] (t_B_handAt x1 v1 h _ (onc_spec e4).2) mm_B_handAt (by decide) d_C_kind_5 (onc_spec e4).1 rfl rfl w567 w568 w569 rfl (Nat.le_of_ble_eq_true rfl) rfl (go_astore_n (lv1 := [(2, va_rf x3), (0, va_rf v0), (1, .int v1)]) d_C_kind_8 (by decide) rfl (go_aload_n 0 d_C_kind_9 rfl B)))))) ?_
  by_cases c5 : x3 = none
  · replace hyp := (if_pos c5).symm.trans hyp
    refine rt_st (pc1 := 22) (fun _ _ B => go_ifnonnull_f d_C_kind_10 rfl c5 (go_ldc (v := (-1000001 : Int32)) d_C_kind_13 w316 (go_goto 22 d_C_kind_15 rfl B))) ?_
    exact rt_eqR Value.int hyp (rt_int d_C_kind_22 rfl)
  · replace hyp := (if_neg c5).symm.trans hyp
    obtain ⟨x6, e7, hyp⟩ := Option.bind_eq_some_iff.mp hyp
    refine rt_st (pc1 := 22) (fun _ _ B => go_ifnonnull_t 18 d_C_kind_10 rfl c5 (go_aload_n 0 d_C_kind_18 rfl (vs_C_kind_19 h (st := []) e7 (Nat.le_of_ble_eq_true rfl) B))) ?_
    exact rt_eqR Value.int hyp (rt_int d_C_kind_22 rfl)
/-! WideTurn.isOne(LWideTurn.Hand;I)Z -/
def f_C_isOne (v0 : Option Nat) (v1 : Int32) (h : MH) : Option (Int32) :=
  if v1 = (0 : Int32) then
    some (1 : Int32)
  else
  if v1 = (1 : Int32) then
    Option.bind (cls h v0) fun x3 =>
    Option.bind (mj_is x3 "WideTurn$Swinger") fun x4 =>
    Option.bind (mj_b01 (if x4 then 1 else 0)) fun _ =>
    some (if x4 then 1 else 0)
  else
  if v1 = (2 : Int32) then
    Option.bind (cls h v0) fun x9 =>
    Option.bind (mj_is x9 "WideTurn$Poler") fun x10 =>
    Option.bind (mj_b01 (if x10 then 1 else 0)) fun _ =>
    some (if x10 then 1 else 0)
  else
  if v1 = (3 : Int32) then
    Option.bind (cls h v0) fun x15 =>
    Option.bind (mj_is x15 "WideTurn$Roper") fun x16 =>
    Option.bind (mj_b01 (if x16 then 1 else 0)) fun _ =>
    some (if x16 then 1 else 0)
  else
  if v1 = (4 : Int32) then
    Option.bind (cls h v0) fun x21 =>
    Option.bind (mj_is x21 "WideTurn$Shover") fun x22 =>
    Option.bind (mj_b01 (if x22 then 1 else 0)) fun _ =>
    some (if x22 then 1 else 0)
  else
  if v1 = (5 : Int32) then
    Option.bind (cls h v0) fun x27 =>
    Option.bind (mj_is x27 "WideTurn$Lifter") fun x28 =>
    Option.bind (mj_b01 (if x28 then 1 else 0)) fun _ =>
    some (if x28 then 1 else 0)
  else
  some (0 : Int32)
set_option maxHeartbeats 4000000 in
set_option maxRecDepth 200000 in
theorem t_C_isOne (v0 : Option Nat) (v1 : Int32) (h : MH) (r : (Int32)) (hyp : f_C_isOne v0 v1 h = some r) : Mt mi_C_isOne 1 [va_rf v0, .int v1] h (some (.int r)) h := by
  refine Mt.rt (lv := [(0, va_rf v0), (1, .int v1)]) (by decide +kernel) (by simp [lv_args, mj_rfc, mj_cti, mj_ctl]) (by simp [mj_rfc, mj_cti, mj_ctl]) ?_
  unfold f_C_isOne at hyp
  refine rt_st (pc1 := 1) (fun _ _ B => go_iload_n 1 d_C_isOne_0 rfl B) ?_
  by_cases c1 : v1 = (0 : Int32)
  · replace hyp := (if_pos c1).symm.trans hyp
    refine rt_st (pc1 := 41) (fun _ _ B => go_tsw 40 d_C_isOne_1 (by decide) (by rw [c1]; decide) (go_iconst (v := (1 : Int32)) d_C_isOne_40 (by decide) B)) ?_
    exact rt_eqR Value.int hyp (rt_bool d_C_isOne_41 rfl (by decide))
  replace hyp := (if_neg c1).symm.trans hyp
  by_cases c2 : v1 = (1 : Int32)
  · replace hyp := (if_pos c2).symm.trans hyp
    obtain ⟨x3, e5, hyp⟩ := Option.bind_eq_some_iff.mp hyp
    obtain ⟨x4, e6, hyp⟩ := Option.bind_eq_some_iff.mp hyp
    refine rt_st (pc1 := 46) (fun _ _ B => go_tsw 42 d_C_isOne_1 (by decide) (by rw [c2]; decide) (go_aload_n 0 d_C_isOne_42 rfl (go_instC d_C_isOne_43 w903 e5 e6 B))) ?_
    obtain ⟨_, e7, hyp⟩ := Option.bind_eq_some_iff.mp hyp
    exact rt_eqR Value.int hyp (rt_bool d_C_isOne_46 rfl (mj_b01_spec e7))
  replace hyp := (if_neg c2).symm.trans hyp
  by_cases c8 : v1 = (2 : Int32)
  · replace hyp := (if_pos c8).symm.trans hyp
    obtain ⟨x9, e11, hyp⟩ := Option.bind_eq_some_iff.mp hyp
    obtain ⟨x10, e12, hyp⟩ := Option.bind_eq_some_iff.mp hyp
    refine rt_st (pc1 := 51) (fun _ _ B => go_tsw 47 d_C_isOne_1 (by decide) (by rw [c8]; decide) (go_aload_n 0 d_C_isOne_47 rfl (go_instC d_C_isOne_48 w904 e11 e12 B))) ?_
    obtain ⟨_, e13, hyp⟩ := Option.bind_eq_some_iff.mp hyp
    exact rt_eqR Value.int hyp (rt_bool d_C_isOne_51 rfl (mj_b01_spec e13))
  replace hyp := (if_neg c8).symm.trans hyp
  by_cases c14 : v1 = (3 : Int32)
  · replace hyp := (if_pos c14).symm.trans hyp
    obtain ⟨x15, e17, hyp⟩ := Option.bind_eq_some_iff.mp hyp
    obtain ⟨x16, e18, hyp⟩ := Option.bind_eq_some_iff.mp hyp
    refine rt_st (pc1 := 56) (fun _ _ B => go_tsw 52 d_C_isOne_1 (by decide) (by rw [c14]; decide) (go_aload_n 0 d_C_isOne_52 rfl (go_instC d_C_isOne_53 w905 e17 e18 B))) ?_
    obtain ⟨_, e19, hyp⟩ := Option.bind_eq_some_iff.mp hyp
    exact rt_eqR Value.int hyp (rt_bool d_C_isOne_56 rfl (mj_b01_spec e19))
  replace hyp := (if_neg c14).symm.trans hyp
  by_cases c20 : v1 = (4 : Int32)
  · replace hyp := (if_pos c20).symm.trans hyp
    obtain ⟨x21, e23, hyp⟩ := Option.bind_eq_some_iff.mp hyp
    obtain ⟨x22, e24, hyp⟩ := Option.bind_eq_some_iff.mp hyp
    refine rt_st (pc1 := 61) (fun _ _ B => go_tsw 57 d_C_isOne_1 (by decide) (by rw [c20]; decide) (go_aload_n 0 d_C_isOne_57 rfl (go_instC d_C_isOne_58 w906 e23 e24 B))) ?_
    obtain ⟨_, e25, hyp⟩ := Option.bind_eq_some_iff.mp hyp
    exact rt_eqR Value.int hyp (rt_bool d_C_isOne_61 rfl (mj_b01_spec e25))
  replace hyp := (if_neg c20).symm.trans hyp
  by_cases c26 : v1 = (5 : Int32)
  · replace hyp := (if_pos c26).symm.trans hyp
    obtain ⟨x27, e29, hyp⟩ := Option.bind_eq_some_iff.mp hyp
    obtain ⟨x28, e30, hyp⟩ := Option.bind_eq_some_iff.mp hyp
    refine rt_st (pc1 := 66) (fun _ _ B => go_tsw 62 d_C_isOne_1 (by decide) (by rw [c26]; decide) (go_aload_n 0 d_C_isOne_62 rfl (go_instC d_C_isOne_63 w907 e29 e30 B))) ?_
    obtain ⟨_, e31, hyp⟩ := Option.bind_eq_some_iff.mp hyp
    exact rt_eqR Value.int hyp (rt_bool d_C_isOne_66 rfl (mj_b01_spec e31))
  replace hyp := (if_neg c26).symm.trans hyp
  refine rt_st (pc1 := 68) (fun _ _ B => go_tsw 67 d_C_isOne_1 (by decide) (mj_swd [0, 1, 2, 3, 4, 5] (List.forall_mem_cons.mpr ⟨mj_swn c1 (by decide), List.forall_mem_cons.mpr ⟨mj_swn c2 (by decide), List.forall_mem_cons.mpr ⟨mj_swn c8 (by decide), List.forall_mem_cons.mpr ⟨mj_swn c14 (by decide), List.forall_mem_cons.mpr ⟨mj_swn c20 (by decide), List.forall_mem_cons.mpr ⟨mj_swn c26 (by decide), List.forall_mem_nil _⟩⟩⟩⟩⟩⟩) (by decide) rfl) (go_iconst (v := (0 : Int32)) d_C_isOne_67 (by decide) B)) ?_
  exact rt_eqR Value.int hyp (rt_bool d_C_isOne_68 rfl (by decide))
/-! WideTurn.as(II)I -/
def f_C_as (v0 : Option Nat) (v1 : Int32) (v2 : Int32) (h : MH) : Option (Int32 × MH) :=
  Option.bind (gfr h v0 [10] 4) fun x1 =>
  Option.bind (onc h x1 1 (f_B_handAt x1 v1 h)) fun x3 =>
  if x3 = none then
    some ((-1000001 : Int32), h)
  else
    if (f_C_within v2 (6 : Int32)) = 0 then
      some ((-1000001 : Int32), h)
    else
      Option.bind (f_C_isOne x3 v2 h) fun x7 =>
      if x7 = 0 then
        Option.bind (onc h v0 10 (f_C_found v0 (3 : Int32) h)) fun x10 =>
        some (x10.1, x10.2)
      else
        Option.bind (onc h v0 10 (f_C_sound v0 v1 h)) fun x12 =>
        some (x12.1, x12.2)
set_option maxHeartbeats 4000000 in
set_option maxRecDepth 200000 in
theorem t_C_as (v0 : Option Nat) (v1 : Int32) (v2 : Int32) (h : MH) (r : (Int32 × MH)) (hyp : f_C_as v0 v1 v2 h = some r) : Mt mi_C_as 3 [va_rf v0, .int v1, .int v2] h (some (.int r.1)) r.2 := by
  refine Mt.rt (lv := [(0, va_rf v0), (1, .int v1), (2, .int v2)]) (by decide +kernel) (by simp [lv_args, mj_rfc, mj_cti, mj_ctl]) (by simp [mj_rfc, mj_cti, mj_ctl]) ?_
  unfold f_C_as at hyp
  obtain ⟨x1, e2, hyp⟩ := Option.bind_eq_some_iff.mp hyp
  obtain ⟨x3, e4, hyp⟩ := Option.bind_eq_some_iff.mp hyp
  refine rt_st (pc1 := 10) (fun _ _ B => go_aload_n 0 d_C_as_0 rfl (go_gfr d_C_as_1 fd_10_4 w279 e2 (go_iload_n 1 d_C_as_4 rfl (go_callV1 (q := q_1) (st := []) [.int v1] (t_B_handAt x1 v1 h _ (onc_spec e4).2) mm_B_handAt (by decide) d_C_as_5 (onc_spec e4).1 rfl rfl w567 w568 w569 rfl (Nat.le_of_ble_eq_true rfl) rfl (go_astore_n (lv1 := [(3, va_rf x3), (0, va_rf v0), (1, .int v1), (2, .int v2)]) d_C_as_8 (by decide) rfl (go_aload_n 0 d_C_as_9 rfl B)))))) ?_
  by_cases c5 : x3 = none
  · replace hyp := (if_pos c5).symm.trans hyp
    refine rt_st (pc1 := 24) (fun _ _ B => go_ifnull_t 22 d_C_as_10 rfl c5 (go_ldc (v := (-1000001 : Int32)) d_C_as_22 w316 B)) ?_
    exact rt_eqW Value.int hyp (rt_int d_C_as_24 rfl)
  · replace hyp := (if_neg c5).symm.trans hyp
    refine rt_st (pc1 := 19) (fun _ _ B => go_ifnull_f d_C_as_10 rfl c5 (go_iload_n 3 d_C_as_13 rfl (go_bipush (v := (6 : Int32)) d_C_as_14 (by decide) (go_callS1 (st := []) [.int v2, .int (6 : Int32)] (t_C_within v2 (6 : Int32) h) mm_C_within (by decide) d_C_as_16 w313 w314 rfl (Nat.le_of_ble_eq_true rfl) rfl B)))) ?_
    by_cases c6 : (f_C_within v2 (6 : Int32)) = 0
    · replace hyp := (if_pos c6).symm.trans hyp
      refine rt_st (pc1 := 24) (fun _ _ B => go_if_ne_f d_C_as_19 rfl c6 (go_ldc (v := (-1000001 : Int32)) d_C_as_22 w316 B)) ?_
      exact rt_eqW Value.int hyp (rt_int d_C_as_24 rfl)
    · replace hyp := (if_neg c6).symm.trans hyp
      obtain ⟨x7, e8, hyp⟩ := Option.bind_eq_some_iff.mp hyp
      refine rt_st (pc1 := 30) (fun _ _ B => go_if_ne_t 25 d_C_as_19 rfl c6 (go_aload_n 0 d_C_as_25 rfl (go_iload_n 3 d_C_as_26 rfl (go_callS1 (st := []) [va_rf x3, .int v2] (t_C_isOne x3 v2 h _ e8) mm_C_isOne (by decide) d_C_as_27 w900 w901 rfl (Nat.le_of_ble_eq_true rfl) rfl B)))) ?_
      by_cases c9 : x7 = 0
      · replace hyp := (if_pos c9).symm.trans hyp
        obtain ⟨x10, e11, hyp⟩ := Option.bind_eq_some_iff.mp hyp
        refine rt_st (pc1 := 46) (fun _ _ B => go_if_eq_t 41 d_C_as_30 rfl c9 (go_aload_n 1 d_C_as_41 rfl (go_iconst (v := (3 : Int32)) d_C_as_42 (by decide) (go_callV1 (q := q_10) (st := []) [.int (3 : Int32)] (t_C_found v0 (3 : Int32) h _ (onc_spec e11).2) mm_C_found (by decide) d_C_as_43 (onc_spec e11).1 rfl rfl w317 w319 w0 rfl (Nat.le_of_ble_eq_true rfl) rfl B)))) ?_
        exact rt_eqW Value.int hyp (rt_int d_C_as_46 rfl)
      · replace hyp := (if_neg c9).symm.trans hyp
        obtain ⟨x12, e13, hyp⟩ := Option.bind_eq_some_iff.mp hyp
        refine rt_st (pc1 := 46) (fun _ _ B => go_if_eq_f d_C_as_30 rfl c9 (go_aload_n 1 d_C_as_33 rfl (go_iload_n 2 d_C_as_34 rfl (go_callV1 (q := q_10) (st := []) [.int v1] (t_C_sound v0 v1 h _ (onc_spec e13).2) mm_C_sound (by decide) d_C_as_35 (onc_spec e13).1 rfl rfl w329 w331 w1 rfl (Nat.le_of_ble_eq_true rfl) rfl (go_goto 46 d_C_as_38 rfl B))))) ?_
        exact rt_eqW Value.int hyp (rt_int d_C_as_46 rfl)
/-! WideTurn.ask(II)I -/
def v_H_size (o : Option Nat) (a0 : Option Nat) (a1 : Int32) (h : MH) : Option (Int32 × MH) :=
  if cls h o = some 2 then f_Lf_size o a0 a1 h else
  if cls h o = some 3 then f_Po_size o a0 a1 h else
  if cls h o = some 4 then f_Sw_size o a0 a1 h else
  if cls h o = some 7 then f_Sh_size o a0 a1 h else
  if cls h o = some 8 then f_Sw_size o a0 a1 h else
  none
def v_H_mark (o : Option Nat) (a0 : Option Nat) (a1 : Int32) (h : MH) : Option (Int32 × MH) :=
  if cls h o = some 2 then f_Sh_mark o a0 a1 h else
  if cls h o = some 3 then f_Po_mark o a0 a1 h else
  if cls h o = some 4 then f_Ro_mark o a0 a1 h else
  if cls h o = some 7 then f_Sh_mark o a0 a1 h else
  if cls h o = some 8 then f_Sw_mark o a0 a1 h else
  none
def f_C_ask (v0 : Option Nat) (v1 : Int32) (v2 : Int32) (h : MH) : Option (Int32 × MH) :=
  Option.bind (gfr h v0 [10] 4) fun x1 =>
  Option.bind (onc h x1 1 (f_B_handAt x1 v1 h)) fun x3 =>
  if x3 = none then
    some ((-1000001 : Int32), h)
  else
    if (f_C_within v2 (2 : Int32)) = 0 then
      some ((-1000001 : Int32), h)
    else
      Option.bind (gfr h v0 [10] 7) fun x7 =>
      Option.bind (f_C_put x7 (0 : Int32) (0 : Int32) h) fun h9 =>
      if v2 = 0 then
        Option.bind (gfr h9 v0 [10] 7) fun x12 =>
        Option.bind (gfr h9 v0 [10] 4) fun x14 =>
        Option.bind (gfi h9 x14 [1] 4) fun x16 =>
        Option.bind (v_H_size x3 x12 x16 h9) fun x18 =>
        some (x18.1, x18.2)
      else
        Option.bind (gfr h9 v0 [10] 7) fun x20 =>
        Option.bind (gfr h9 v0 [10] 4) fun x22 =>
        Option.bind (gfi h9 x22 [1] 4) fun x24 =>
        Option.bind (v_H_mark x3 x20 x24 h9) fun x26 =>
        some (x26.1, x26.2)
set_option maxHeartbeats 4000000 in
set_option maxRecDepth 200000 in
theorem vs_C_ask_49 {h0 : MH} (h : MH) {o : Option Nat} {a0 : Option Nat} {a1 : Int32} {pc2 : Nat} {lv lv2 : List (Nat × Value)} {st st2 : List Value} {h2 : MH} {x : Int32 × MH} (e : v_H_size o a0 a1 h = some x) (hst : st.length ≤ 4) (B : Go mi_C_ask 7 h0 (49 + 3) lv (.int x.1 :: st) x.2 pc2 lv2 st2 h2) : Go mi_C_ask 7 h0 49 lv (.int a1 :: va_rf a0 :: va_rf o :: st) h pc2 lv2 st2 h2 := by
  unfold v_H_size at e
  by_cases c2 : cls h o = some 2
  · replace e := (if_pos c2).symm.trans e
    exact go_callU1 (q := q_2) [va_rf a0, .int a1] (t_Lf_size o a0 a1 h _ e) mm_Lf_size (by decide) d_C_ask_49 c2 rfl w912 w914 (Or.inl ⟨_, _, _, w913, w961⟩) (by decide +kernel) w915 w916 rfl hst rfl B
  replace e := (if_neg c2).symm.trans e
  by_cases c3 : cls h o = some 3
  · replace e := (if_pos c3).symm.trans e
    exact go_callU1 (q := q_3) [va_rf a0, .int a1] (t_Po_size o a0 a1 h _ e) mm_Po_size (by decide) d_C_ask_49 c3 rfl w912 w914 (Or.inl ⟨_, _, _, w913, w961⟩) (by decide +kernel) w928 w929 rfl hst rfl B
  replace e := (if_neg c3).symm.trans e
  by_cases c4 : cls h o = some 4
  · replace e := (if_pos c4).symm.trans e
    exact go_callU1 (q := q_4) [va_rf a0, .int a1] (t_Sw_size o a0 a1 h _ e) mm_Sw_size (by decide) d_C_ask_49 c4 rfl w912 w914 (Or.inl ⟨_, _, _, w913, w961⟩) (by decide +kernel) w958 w934 rfl hst rfl B
  replace e := (if_neg c4).symm.trans e
  by_cases c7 : cls h o = some 7
  · replace e := (if_pos c7).symm.trans e
    exact go_callU1 (q := q_7) [va_rf a0, .int a1] (t_Sh_size o a0 a1 h _ e) mm_Sh_size (by decide) d_C_ask_49 c7 rfl w912 w914 (Or.inl ⟨_, _, _, w913, w961⟩) (by decide +kernel) w959 w923 rfl hst rfl B
  replace e := (if_neg c7).symm.trans e
  by_cases c8 : cls h o = some 8
  · replace e := (if_pos c8).symm.trans e
    exact go_callU1 (q := q_8) [va_rf a0, .int a1] (t_Sw_size o a0 a1 h _ e) mm_Sw_size (by decide) d_C_ask_49 c8 rfl w912 w914 (Or.inl ⟨_, _, _, w913, w961⟩) (by decide +kernel) w960 w934 rfl hst rfl B
  replace e := (if_neg c8).symm.trans e
  cases e
set_option maxHeartbeats 4000000 in
set_option maxRecDepth 200000 in
theorem vs_C_ask_67 {h0 : MH} (h : MH) {o : Option Nat} {a0 : Option Nat} {a1 : Int32} {pc2 : Nat} {lv lv2 : List (Nat × Value)} {st st2 : List Value} {h2 : MH} {x : Int32 × MH} (e : v_H_mark o a0 a1 h = some x) (hst : st.length ≤ 4) (B : Go mi_C_ask 7 h0 (67 + 3) lv (.int x.1 :: st) x.2 pc2 lv2 st2 h2) : Go mi_C_ask 7 h0 67 lv (.int a1 :: va_rf a0 :: va_rf o :: st) h pc2 lv2 st2 h2 := by
  unfold v_H_mark at e
  by_cases c2 : cls h o = some 2
  · replace e := (if_pos c2).symm.trans e
    exact go_callU1 (q := q_2) [va_rf a0, .int a1] (t_Sh_mark o a0 a1 h _ e) mm_Sh_mark (by decide) d_C_ask_67 c2 rfl w962 w1379 (Or.inl ⟨_, _, _, w955, w956⟩) (by decide +kernel) w1380 w963 rfl hst rfl B
  replace e := (if_neg c2).symm.trans e
  by_cases c3 : cls h o = some 3
  · replace e := (if_pos c3).symm.trans e
    exact go_callU1 (q := q_3) [va_rf a0, .int a1] (t_Po_mark o a0 a1 h _ e) mm_Po_mark (by decide) d_C_ask_67 c3 rfl w962 w1379 (Or.inl ⟨_, _, _, w955, w956⟩) (by decide +kernel) w1383 w944 rfl hst rfl B
  replace e := (if_neg c3).symm.trans e
  by_cases c4 : cls h o = some 4
  · replace e := (if_pos c4).symm.trans e
    exact go_callU1 (q := q_4) [va_rf a0, .int a1] (t_Ro_mark o a0 a1 h _ e) mm_Ro_mark (by decide) d_C_ask_67 c4 rfl w962 w1379 (Or.inl ⟨_, _, _, w955, w956⟩) (by decide +kernel) w1384 w948 rfl hst rfl B
  replace e := (if_neg c4).symm.trans e
  by_cases c7 : cls h o = some 7
  · replace e := (if_pos c7).symm.trans e
    exact go_callU1 (q := q_7) [va_rf a0, .int a1] (t_Sh_mark o a0 a1 h _ e) mm_Sh_mark (by decide) d_C_ask_67 c7 rfl w962 w1379 (Or.inl ⟨_, _, _, w955, w956⟩) (by decide +kernel) w1385 w963 rfl hst rfl B
  replace e := (if_neg c7).symm.trans e
  by_cases c8 : cls h o = some 8
  · replace e := (if_pos c8).symm.trans e
    exact go_callU1 (q := q_8) [va_rf a0, .int a1] (t_Sw_mark o a0 a1 h _ e) mm_Sw_mark (by decide) d_C_ask_67 c8 rfl w962 w1379 (Or.inl ⟨_, _, _, w955, w956⟩) (by decide +kernel) w1386 w940 rfl hst rfl B
  replace e := (if_neg c8).symm.trans e
  cases e
set_option maxHeartbeats 4000000 in
set_option maxRecDepth 200000 in
theorem t_C_ask (v0 : Option Nat) (v1 : Int32) (v2 : Int32) (h : MH) (r : (Int32 × MH)) (hyp : f_C_ask v0 v1 v2 h = some r) : Mt mi_C_ask 7 [va_rf v0, .int v1, .int v2] h (some (.int r.1)) r.2 := by
  refine Mt.rt (lv := [(0, va_rf v0), (1, .int v1), (2, .int v2)]) (by decide +kernel) (by simp [lv_args, mj_rfc, mj_cti, mj_ctl]) (by simp [mj_rfc, mj_cti, mj_ctl]) ?_
  unfold f_C_ask at hyp
  obtain ⟨x1, e2, hyp⟩ := Option.bind_eq_some_iff.mp hyp
  obtain ⟨x3, e4, hyp⟩ := Option.bind_eq_some_iff.mp hyp
  refine rt_st (pc1 := 10) (fun _ _ B => go_aload_n 0 d_C_ask_0 rfl (go_gfr d_C_ask_1 fd_10_4 w279 e2 (go_iload_n 1 d_C_ask_4 rfl (go_callV1 (q := q_1) (st := []) [.int v1] (t_B_handAt x1 v1 h _ (onc_spec e4).2) mm_B_handAt (by decide) d_C_ask_5 (onc_spec e4).1 rfl rfl w567 w568 w569 rfl (Nat.le_of_ble_eq_true rfl) rfl (go_astore_n (lv1 := [(3, va_rf x3), (0, va_rf v0), (1, .int v1), (2, .int v2)]) d_C_ask_8 (by decide) rfl (go_aload_n 0 d_C_ask_9 rfl B)))))) ?_
  by_cases c5 : x3 = none
  · replace hyp := (if_pos c5).symm.trans hyp
    refine rt_st (pc1 := 23) (fun _ _ B => go_ifnull_t 21 d_C_ask_10 rfl c5 (go_ldc (v := (-1000001 : Int32)) d_C_ask_21 w316 B)) ?_
    exact rt_eqW Value.int hyp (rt_int d_C_ask_23 rfl)
  · replace hyp := (if_neg c5).symm.trans hyp
    refine rt_st (pc1 := 18) (fun _ _ B => go_ifnull_f d_C_ask_10 rfl c5 (go_iload_n 3 d_C_ask_13 rfl (go_iconst (v := (2 : Int32)) d_C_ask_14 (by decide) (go_callS1 (st := []) [.int v2, .int (2 : Int32)] (t_C_within v2 (2 : Int32) h) mm_C_within (by decide) d_C_ask_15 w313 w314 rfl (Nat.le_of_ble_eq_true rfl) rfl B)))) ?_
    by_cases c6 : (f_C_within v2 (2 : Int32)) = 0
    · replace hyp := (if_pos c6).symm.trans hyp
      refine rt_st (pc1 := 23) (fun _ _ B => go_if_ne_f d_C_ask_18 rfl c6 (go_ldc (v := (-1000001 : Int32)) d_C_ask_21 w316 B)) ?_
      exact rt_eqW Value.int hyp (rt_int d_C_ask_23 rfl)
    · replace hyp := (if_neg c6).symm.trans hyp
      obtain ⟨x7, e8, hyp⟩ := Option.bind_eq_some_iff.mp hyp
      obtain ⟨h9, e10, hyp⟩ := Option.bind_eq_some_iff.mp hyp
      refine rt_st (pc1 := 34) (fun _ _ B => go_if_ne_t 24 d_C_ask_18 rfl c6 (go_aload_n 1 d_C_ask_24 rfl (go_gfr d_C_ask_25 fd_10_7 w282 e8 (go_iconst (v := (0 : Int32)) d_C_ask_28 (by decide) (go_iconst (v := (0 : Int32)) d_C_ask_29 (by decide) (go_callS0 (st := []) [va_rf x7, .int (0 : Int32), .int (0 : Int32)] (t_C_put x7 (0 : Int32) (0 : Int32) h _ e10) mm_C_put (by decide) d_C_ask_30 w783 w327 rfl (Nat.le_of_ble_eq_true rfl) rfl (go_iload_n 3 d_C_ask_33 rfl B))))))) ?_
      by_cases c11 : v2 = 0
      · replace hyp := (if_pos c11).symm.trans hyp
        obtain ⟨x12, e13, hyp⟩ := Option.bind_eq_some_iff.mp hyp
        obtain ⟨x14, e15, hyp⟩ := Option.bind_eq_some_iff.mp hyp
        obtain ⟨x16, e17, hyp⟩ := Option.bind_eq_some_iff.mp hyp
        obtain ⟨x18, e19, hyp⟩ := Option.bind_eq_some_iff.mp hyp
        refine rt_st (pc1 := 70) (fun _ _ B => go_if_ne_f d_C_ask_34 rfl c11 (go_aload_n 0 d_C_ask_37 rfl (go_aload_n 1 d_C_ask_38 rfl (go_gfr d_C_ask_39 fd_10_7 w282 e13 (go_aload_n 1 d_C_ask_42 rfl (go_gfr d_C_ask_43 fd_10_4 w279 e15 (go_gfi d_C_ask_46 fd_1_4 w231 e17 (vs_C_ask_49 h9 (st := []) e19 (Nat.le_of_ble_eq_true rfl) (go_goto 70 d_C_ask_52 rfl B))))))))) ?_
        exact rt_eqW Value.int hyp (rt_int d_C_ask_70 rfl)
      · replace hyp := (if_neg c11).symm.trans hyp
        obtain ⟨x20, e21, hyp⟩ := Option.bind_eq_some_iff.mp hyp
        obtain ⟨x22, e23, hyp⟩ := Option.bind_eq_some_iff.mp hyp
        obtain ⟨x24, e25, hyp⟩ := Option.bind_eq_some_iff.mp hyp
        obtain ⟨x26, e27, hyp⟩ := Option.bind_eq_some_iff.mp hyp
        refine rt_st (pc1 := 70) (fun _ _ B => go_if_ne_t 55 d_C_ask_34 rfl c11 (go_aload_n 0 d_C_ask_55 rfl (go_aload_n 1 d_C_ask_56 rfl (go_gfr d_C_ask_57 fd_10_7 w282 e21 (go_aload_n 1 d_C_ask_60 rfl (go_gfr d_C_ask_61 fd_10_4 w279 e23 (go_gfi d_C_ask_64 fd_1_4 w231 e25 (vs_C_ask_67 h9 (st := []) e27 (Nat.le_of_ble_eq_true rfl) B)))))))) ?_
        exact rt_eqW Value.int hyp (rt_int d_C_ask_70 rfl)
/-! WideTurn.trace(I)I -/
def f_C_trace (v0 : Option Nat) (v1 : Int32) (h : MH) : Option (Int32) :=
  Option.bind (gfr h v0 [10] 7) fun x1 =>
  Option.bind (f_C_at x1 (0 : Int32) h) fun x3 =>
  if (f_C_within v1 x3) = 0 then
    some (-1000000 : Int32)
  else
    Option.bind (gfr h v0 [10] 7) fun x6 =>
    Option.bind (f_C_at x6 (v1 + (1 : Int32)) h) fun x8 =>
    some x8
set_option maxHeartbeats 4000000 in
set_option maxRecDepth 200000 in
theorem t_C_trace (v0 : Option Nat) (v1 : Int32) (h : MH) (r : (Int32)) (hyp : f_C_trace v0 v1 h = some r) : Mt mi_C_trace 2 [va_rf v0, .int v1] h (some (.int r)) h := by
  refine Mt.rt (lv := [(0, va_rf v0), (1, .int v1)]) (by decide +kernel) (by simp [lv_args, mj_rfc, mj_cti, mj_ctl]) (by simp [mj_rfc, mj_cti, mj_ctl]) ?_
  unfold f_C_trace at hyp
  obtain ⟨x1, e2, hyp⟩ := Option.bind_eq_some_iff.mp hyp
  obtain ⟨x3, e4, hyp⟩ := Option.bind_eq_some_iff.mp hyp
  refine rt_st (pc1 := 12) (fun _ _ B => go_iload_n 1 d_C_trace_0 rfl (go_aload_n 0 d_C_trace_1 rfl (go_gfr d_C_trace_2 fd_10_7 w282 e2 (go_iconst (v := (0 : Int32)) d_C_trace_5 (by decide) (go_callS1 (st := [.int v1]) [va_rf x1, .int (0 : Int32)] (t_C_at x1 (0 : Int32) h _ e4) mm_C_at (by decide) d_C_trace_6 w691 w343 rfl (Nat.le_of_ble_eq_true rfl) rfl (go_callS1 (st := []) [.int v1, .int x3] (t_C_within v1 x3 h) mm_C_within (by decide) d_C_trace_9 w313 w314 rfl (Nat.le_of_ble_eq_true rfl) rfl B)))))) ?_
  by_cases c5 : (f_C_within v1 x3) = 0
  · replace hyp := (if_pos c5).symm.trans hyp
    refine rt_st (pc1 := 30) (fun _ _ B => go_if_eq_t 28 d_C_trace_12 rfl c5 (go_ldc (v := (-1000000 : Int32)) d_C_trace_28 w774 B)) ?_
    exact rt_eqR Value.int hyp (rt_int d_C_trace_30 rfl)
  · replace hyp := (if_neg c5).symm.trans hyp
    obtain ⟨x6, e7, hyp⟩ := Option.bind_eq_some_iff.mp hyp
    obtain ⟨x8, e9, hyp⟩ := Option.bind_eq_some_iff.mp hyp
    refine rt_st (pc1 := 30) (fun _ _ B => go_if_eq_f d_C_trace_12 rfl c5 (go_aload_n 0 d_C_trace_15 rfl (go_gfr d_C_trace_16 fd_10_7 w282 e7 (go_iload_n 1 d_C_trace_19 rfl (go_iconst (v := (1 : Int32)) d_C_trace_20 (by decide) (go_iadd d_C_trace_21 (go_callS1 (st := []) [va_rf x6, .int (v1 + (1 : Int32))] (t_C_at x6 (v1 + (1 : Int32)) h _ e9) mm_C_at (by decide) d_C_trace_22 w691 w343 rfl (Nat.le_of_ble_eq_true rfl) rfl (go_goto 30 d_C_trace_25 rfl B)))))))) ?_
    exact rt_eqR Value.int hyp (rt_int d_C_trace_30 rfl)
