/-! WideTurnModel.better()I -/
def b_M_better_76 (F : Nat) : (Int32) → (Int32) → (MH) → (Option (Int32 × MH)) := fun v1 v2 h => 
  if v1 = (-1000000 : Int32) then
    if v2 = (-1000000 : Int32) then
      some ((3 : Int32), h)
    else
      some ((0 : Int32), h)
  else
    some ((1 : Int32), h)
def f_M_better (F : Nat) (v0 : Option Nat) (h : MH) : Option (Int32 × MH) :=
  Option.bind (pfv h v0 [11] 0 (.int (0 : Int32))) fun h1 =>
  Option.bind (gfr h1 v0 [11] 15) fun x3 =>
  Option.bind (ald h1 x3 0 (0 : Int32)) fun x5 =>
  if x5 = 0 then
    some ((-1000002 : Int32), h1)
  else
    Option.bind (gfr h1 v0 [11] 15) fun x8 =>
    Option.bind (gfr h1 v0 [11] 16) fun x10 =>
    Option.bind (f_M_copies F x8 x10 h1) fun h12 =>
    Option.bind (gfr h12 v0 [11] 16) fun x14 =>
    Option.bind (ast h12 x14 0 (16 : Int32) (1 : Int32)) fun h16 =>
    Option.bind (gfr h16 v0 [11] 16) fun x18 =>
    Option.bind (onc h16 v0 11 (f_M_turnedOf F v0 x18 (0 : Int32) h16)) fun x20 =>
    Option.bind (gfr x20.2 v0 [11] 16) fun x22 =>
    Option.bind (ast x20.2 x22 0 (16 : Int32) (0 : Int32)) fun h24 =>
    Option.bind (gfr h24 v0 [11] 16) fun x26 =>
    Option.bind (onc h24 v0 11 (f_M_turnedOf F v0 x26 (0 : Int32) h24)) fun x28 =>
    if x20.1 = (-1000000 : Int32) then
      b_M_better_76 F x20.1 x28.1 x28.2
    else
      if x28.1 = (-1000000 : Int32) then
        b_M_better_76 F x20.1 x28.1 x28.2
      else
        if x28.1 ≤ x20.1 then
          if x20.1 ≤ x28.1 then
            some ((2 : Int32), x28.2)
          else
            some ((0 : Int32), x28.2)
        else
          some ((1 : Int32), x28.2)
set_option maxHeartbeats 4000000 in
set_option maxRecDepth 200000 in
theorem p_M_better_76 (F : Nat) {h0 : MH} (v1 : Int32) (v2 : Int32) (h : MH) (r : (Int32 × MH)) : b_M_better_76 F  v1 v2 h = some r → Rt mi_M_better 9 h0 76 [(1, .int v1), (2, .int v2)] [] h (some (.int r.1)) r.2 := by
  intro hyp
  unfold b_M_better_76 at hyp
  refine rt_st (pc1 := 79) (fun _ _ B => go_iload_n 0 d_M_better_76 rfl (go_ldc (v := (-1000000 : Int32)) d_M_better_77 w1239 B)) ?_
  by_cases c1 : v1 = (-1000000 : Int32)
  · replace hyp := (if_pos c1).symm.trans hyp
    refine rt_st (pc1 := 89) (fun _ _ B => go_icmp_eq_t 86 d_M_better_79 rfl c1 (go_iload_n 1 d_M_better_86 rfl (go_ldc (v := (-1000000 : Int32)) d_M_better_87 w1239 B))) ?_
    by_cases c2 : v2 = (-1000000 : Int32)
    · replace hyp := (if_pos c2).symm.trans hyp
      refine rt_st (pc1 := 97) (fun _ _ B => go_icmp_eq_t 96 d_M_better_89 rfl c2 (go_iconst (v := (3 : Int32)) d_M_better_96 (by decide) B)) ?_
      exact rt_eqW Value.int hyp (rt_int d_M_better_97 rfl)
    · replace hyp := (if_neg c2).symm.trans hyp
      refine rt_st (pc1 := 97) (fun _ _ B => go_icmp_eq_f d_M_better_89 rfl c2 (go_iconst (v := (0 : Int32)) d_M_better_92 (by decide) (go_goto 97 d_M_better_93 rfl B))) ?_
      exact rt_eqW Value.int hyp (rt_int d_M_better_97 rfl)
  · replace hyp := (if_neg c1).symm.trans hyp
    refine rt_st (pc1 := 97) (fun _ _ B => go_icmp_eq_f d_M_better_79 rfl c1 (go_iconst (v := (1 : Int32)) d_M_better_82 (by decide) (go_goto 97 d_M_better_83 rfl B))) ?_
    exact rt_eqW Value.int hyp (rt_int d_M_better_97 rfl)
set_option maxHeartbeats 4000000 in
set_option maxRecDepth 200000 in
theorem t_M_better (F : Nat) (v0 : Option Nat) (h : MH) (r : (Int32 × MH)) (hyp : f_M_better F v0 h = some r) : Mt mi_M_better 9 [va_rf v0] h (some (.int r.1)) r.2 := by
  refine Mt.rt (lv := [(0, va_rf v0)]) (by decide +kernel) (by simp [lv_args, mj_rfc, mj_cti, mj_ctl]) (by simp [mj_rfc, mj_cti, mj_ctl]) ?_
  unfold f_M_better at hyp
  obtain ⟨h1, e2, hyp⟩ := Option.bind_eq_some_iff.mp hyp
  obtain ⟨x3, e4, hyp⟩ := Option.bind_eq_some_iff.mp hyp
  obtain ⟨x5, e6, hyp⟩ := Option.bind_eq_some_iff.mp hyp
  refine rt_st (pc1 := 11) (fun _ _ B => go_aload_n 0 d_M_better_0 rfl (go_iconst (v := (0 : Int32)) d_M_better_1 (by decide) (go_pfi d_M_better_2 fd_11_0 w989 (fun q => by cases q) e2 (go_aload_n 0 d_M_better_5 rfl (go_gfr d_M_better_6 fd_11_15 w1004 e4 (go_iconst (v := (0 : Int32)) d_M_better_9 (by decide) (go_iald d_M_better_10 e6 B))))))) ?_
  by_cases c7 : x5 = 0
  · replace hyp := (if_pos c7).symm.trans hyp
    refine rt_st (pc1 := 16) (fun _ _ B => go_if_ne_f d_M_better_11 rfl c7 (go_ldc (v := (-1000002 : Int32)) d_M_better_14 w1164 B)) ?_
    exact rt_eqW Value.int hyp (rt_int d_M_better_16 rfl)
  · replace hyp := (if_neg c7).symm.trans hyp
    obtain ⟨x8, e9, hyp⟩ := Option.bind_eq_some_iff.mp hyp
    obtain ⟨x10, e11, hyp⟩ := Option.bind_eq_some_iff.mp hyp
    obtain ⟨h12, e13, hyp⟩ := Option.bind_eq_some_iff.mp hyp
    obtain ⟨x14, e15, hyp⟩ := Option.bind_eq_some_iff.mp hyp
    obtain ⟨h16, e17, hyp⟩ := Option.bind_eq_some_iff.mp hyp
    obtain ⟨x18, e19, hyp⟩ := Option.bind_eq_some_iff.mp hyp
    obtain ⟨x20, e21, hyp⟩ := Option.bind_eq_some_iff.mp hyp
    obtain ⟨x22, e23, hyp⟩ := Option.bind_eq_some_iff.mp hyp
    obtain ⟨h24, e25, hyp⟩ := Option.bind_eq_some_iff.mp hyp
    obtain ⟨x26, e27, hyp⟩ := Option.bind_eq_some_iff.mp hyp
    obtain ⟨x28, e29, hyp⟩ := Option.bind_eq_some_iff.mp hyp
    refine rt_st (pc1 := 67) (fun _ _ B => go_if_ne_t 17 d_M_better_11 rfl c7 (go_aload_n 0 d_M_better_17 rfl (go_gfr d_M_better_18 fd_11_15 w1004 e9 (go_aload_n 0 d_M_better_21 rfl (go_gfr d_M_better_22 fd_11_16 w1005 e11 (go_callS0 (st := []) [va_rf x8, va_rf x10] (t_M_copies F x8 x10 h1 _ e13) mm_M_copies (by decide) d_M_better_25 w1153 w1154 rfl (Nat.le_of_ble_eq_true rfl) rfl (go_aload_n 0 d_M_better_28 rfl (go_gfr d_M_better_29 fd_11_16 w1005 e15 (go_bipush (v := (16 : Int32)) d_M_better_32 (by decide) (go_iconst (v := (1 : Int32)) d_M_better_34 (by decide) (go_iast d_M_better_35 e17 (go_aload_n 0 d_M_better_36 rfl (go_aload_n 0 d_M_better_37 rfl (go_gfr d_M_better_38 fd_11_16 w1005 e19 (go_iconst (v := (0 : Int32)) d_M_better_41 (by decide) (go_callV1 (q := q_11) (st := []) [va_rf x18, .int (0 : Int32)] (t_M_turnedOf F v0 x18 (0 : Int32) h16 _ (onc_spec e21).2) mm_M_turnedOf (by decide) d_M_better_42 (onc_spec e21).1 rfl rfl w1266 w1268 w46 rfl (Nat.le_of_ble_eq_true rfl) rfl (go_istore_n (lv1 := [(1, .int x20.1), (0, va_rf v0)]) d_M_better_45 (by decide) (by first | (simp [mj_s1, mj_s2, mj_rfc, mj_cti, mj_ctl]; done) | (simp [mj_s1, mj_s2, mj_rfc, mj_cti, mj_ctl]; decide)) (go_aload_n 1 d_M_better_46 rfl (go_gfr d_M_better_47 fd_11_16 w1005 e23 (go_bipush (v := (16 : Int32)) d_M_better_50 (by decide) (go_iconst (v := (0 : Int32)) d_M_better_52 (by decide) (go_iast d_M_better_53 e25 (go_aload_n 1 d_M_better_54 rfl (go_aload_n 1 d_M_better_55 rfl (go_gfr d_M_better_56 fd_11_16 w1005 e27 (go_iconst (v := (0 : Int32)) d_M_better_59 (by decide) (go_callV1 (q := q_11) (st := []) [va_rf x26, .int (0 : Int32)] (t_M_turnedOf F v0 x26 (0 : Int32) h24 _ (onc_spec e29).2) mm_M_turnedOf (by decide) d_M_better_60 (onc_spec e29).1 rfl rfl w1266 w1268 w46 rfl (Nat.le_of_ble_eq_true rfl) rfl (go_istore_n (lv1 := [(2, .int x28.1), (1, .int x20.1), (0, va_rf v0)]) d_M_better_63 (by decide) rfl (go_iload_n 1 d_M_better_64 rfl (go_ldc (v := (-1000000 : Int32)) d_M_better_65 w1239 B)))))))))))))))))))))))))))))) ?_
    by_cases c30 : x20.1 = (-1000000 : Int32)
    · replace hyp := (if_pos c30).symm.trans hyp
      refine rt_st (pc1 := 76) (fun _ _ B => go_icmp_eq_t 76 d_M_better_67 rfl c30 B) ?_
      refine rt_sub [1, 0] (lv1 := [(1, .int x20.1), (2, .int x28.1)]) rfl ?_
      exact p_M_better_76 F _ _ _ r hyp
    · replace hyp := (if_neg c30).symm.trans hyp
      refine rt_st (pc1 := 73) (fun _ _ B => go_icmp_eq_f d_M_better_67 rfl c30 (go_iload_n 0 d_M_better_70 rfl (go_ldc (v := (-1000000 : Int32)) d_M_better_71 w1239 B))) ?_
      by_cases c31 : x28.1 = (-1000000 : Int32)
      · replace hyp := (if_pos c31).symm.trans hyp
        refine rt_st (pc1 := 76) (fun _ _ B => go_icmp_ne_f d_M_better_73 rfl c31 B) ?_
        refine rt_sub [1, 0] (lv1 := [(1, .int x20.1), (2, .int x28.1)]) rfl ?_
        exact p_M_better_76 F _ _ _ r hyp
      · replace hyp := (if_neg c31).symm.trans hyp
        refine rt_st (pc1 := 100) (fun _ _ B => go_icmp_ne_t 98 d_M_better_73 rfl c31 (go_iload_n 1 d_M_better_98 rfl (go_iload_n 0 d_M_better_99 rfl B))) ?_
        by_cases c32 : x28.1 ≤ x20.1
        · replace hyp := (if_pos c32).symm.trans hyp
          refine rt_st (pc1 := 109) (fun _ _ B => go_icmp_ge_t 107 d_M_better_100 rfl c32 (go_iload_n 0 d_M_better_107 rfl (go_iload_n 1 d_M_better_108 rfl B))) ?_
          by_cases c33 : x20.1 ≤ x28.1
          · replace hyp := (if_pos c33).symm.trans hyp
            refine rt_st (pc1 := 117) (fun _ _ B => go_icmp_ge_t 116 d_M_better_109 rfl c33 (go_iconst (v := (2 : Int32)) d_M_better_116 (by decide) B)) ?_
            exact rt_eqW Value.int hyp (rt_int d_M_better_117 rfl)
          · replace hyp := (if_neg c33).symm.trans hyp
            refine rt_st (pc1 := 117) (fun _ _ B => go_icmp_ge_f d_M_better_109 rfl c33 (go_iconst (v := (0 : Int32)) d_M_better_112 (by decide) (go_goto 117 d_M_better_113 rfl B))) ?_
            exact rt_eqW Value.int hyp (rt_int d_M_better_117 rfl)
        · replace hyp := (if_neg c32).symm.trans hyp
          refine rt_st (pc1 := 117) (fun _ _ B => go_icmp_ge_f d_M_better_100 rfl c32 (go_iconst (v := (1 : Int32)) d_M_better_103 (by decide) (go_goto 117 d_M_better_104 rfl B))) ?_
          exact rt_eqW Value.int hyp (rt_int d_M_better_117 rfl)
/-! WideTurnModel.wrongRow(III)I -/
def f_M_wrongRow (v0 : Option Nat) (v1 : Int32) (v2 : Int32) (v3 : Int32) (h : MH) : Option (Int32) :=
  Option.bind (gfr h v0 [11] 10) fun x1 =>
  Option.bind (ald h x1 0 v1) fun x3 =>
  if x3 = 0 then
    some (1 : Int32)
  else
    Option.bind (onc h v0 11 (f_M_isPart v0 v1 v2 v3 h)) fun x6 =>
    if x6 = 0 then
      some (2 : Int32)
    else
      some (0 : Int32)
set_option maxHeartbeats 4000000 in
set_option maxRecDepth 200000 in
theorem t_M_wrongRow (v0 : Option Nat) (v1 : Int32) (v2 : Int32) (v3 : Int32) (h : MH) (r : (Int32)) (hyp : f_M_wrongRow v0 v1 v2 v3 h = some r) : Mt mi_M_wrongRow 2 [va_rf v0, .int v1, .int v2, .int v3] h (some (.int r)) h := by
  refine Mt.rt (lv := [(0, va_rf v0), (1, .int v1), (2, .int v2), (3, .int v3)]) (by decide +kernel) (by simp [lv_args, mj_rfc, mj_cti, mj_ctl]) (by simp [mj_rfc, mj_cti, mj_ctl]) ?_
  unfold f_M_wrongRow at hyp
  obtain ⟨x1, e2, hyp⟩ := Option.bind_eq_some_iff.mp hyp
  obtain ⟨x3, e4, hyp⟩ := Option.bind_eq_some_iff.mp hyp
  refine rt_st (pc1 := 6) (fun _ _ B => go_aload_n 0 d_M_wrongRow_0 rfl (go_gfr d_M_wrongRow_1 fd_11_10 w999 e2 (go_iload_n 1 d_M_wrongRow_4 rfl (go_iald d_M_wrongRow_5 e4 B)))) ?_
  by_cases c5 : x3 = 0
  · replace hyp := (if_pos c5).symm.trans hyp
    refine rt_st (pc1 := 10) (fun _ _ B => go_if_ne_f d_M_wrongRow_6 rfl c5 (go_iconst (v := (1 : Int32)) d_M_wrongRow_9 (by decide) B)) ?_
    exact rt_eqR Value.int hyp (rt_int d_M_wrongRow_10 rfl)
  · replace hyp := (if_neg c5).symm.trans hyp
    obtain ⟨x6, e7, hyp⟩ := Option.bind_eq_some_iff.mp hyp
    refine rt_st (pc1 := 18) (fun _ _ B => go_if_ne_t 11 d_M_wrongRow_6 rfl c5 (go_aload_n 0 d_M_wrongRow_11 rfl (go_iload_n 1 d_M_wrongRow_12 rfl (go_iload_n 2 d_M_wrongRow_13 rfl (go_iload_n 3 d_M_wrongRow_14 rfl (go_callV1 (q := q_11) (st := []) [.int v1, .int v2, .int v3] (t_M_isPart v0 v1 v2 v3 h _ (onc_spec e7).2) mm_M_isPart (by decide) d_M_wrongRow_15 (onc_spec e7).1 rfl rfl w1097 w1099 w31 rfl (Nat.le_of_ble_eq_true rfl) rfl B)))))) ?_
    by_cases c8 : x6 = 0
    · replace hyp := (if_pos c8).symm.trans hyp
      refine rt_st (pc1 := 26) (fun _ _ B => go_if_eq_t 25 d_M_wrongRow_18 rfl c8 (go_iconst (v := (2 : Int32)) d_M_wrongRow_25 (by decide) B)) ?_
      exact rt_eqR Value.int hyp (rt_int d_M_wrongRow_26 rfl)
    · replace hyp := (if_neg c8).symm.trans hyp
      refine rt_st (pc1 := 26) (fun _ _ B => go_if_eq_f d_M_wrongRow_18 rfl c8 (go_iconst (v := (0 : Int32)) d_M_wrongRow_21 (by decide) (go_goto 26 d_M_wrongRow_22 rfl B))) ?_
      exact rt_eqR Value.int hyp (rt_int d_M_wrongRow_26 rfl)
/-! WideTurnModel.plan(IIII)I -/
def b_M_plan_238 (F : Nat) : (Option Nat) → (Int32) → (MH) → (Option (Int32 × MH)) := fun s0 s1 h => 
  Option.bind (onc h s0 11 (f_M_is s0 s1 h)) fun x1 =>
  some (x1.1, x1.2)
def b_M_plan_225 (F : Nat) : (Option Nat) → (Int32) → (Int32) → (Int32) → (MH) → (Option (Int32 × MH)) := fun v0 v4 v6 v7 h => 
  if v4 = 0 then
    b_M_plan_238 F v0 v6 h
  else
    b_M_plan_238 F v0 v7 h
def b_M_plan_216 (F : Nat) (k91 : (Option Nat) → Int32 → Int32 → Int32 → Int32 → Int32 → Int32 → Int32 → Int32 → MH → (Option (Int32 × MH))) : (Option Nat) → (Int32) → (Int32) → (Int32) → (Int32) → (Int32) → (Int32) → (Int32) → (Int32) → (Int32) → (MH) → (Option (Int32 × MH)) := fun v0 v1 v2 v3 v4 v6 v8 v9 s0 s1 h => 
  k91 v0 v1 v2 v3 v4 v6 (s0 + s1) v8 (v9 + (1 : Int32)) h
def b_M_plan_185 (F : Nat) (k91 : (Option Nat) → Int32 → Int32 → Int32 → Int32 → Int32 → Int32 → Int32 → Int32 → MH → (Option (Int32 × MH))) : (Option Nat) → (Int32) → (Int32) → (Int32) → (Int32) → (Int32) → (Int32) → (Int32) → (Int32) → (Int32) → (Int32) → (MH) → (Option (Int32 × MH)) := fun v0 v1 v2 v3 v4 v7 v8 v9 v10 s0 s1 h => 
  if v8 = 0 then
    b_M_plan_216 F k91 v0 v1 v2 v3 v4 (s0 + s1) v8 v9 v7 (0 : Int32) h
  else
    Option.bind (gfr h v0 [11] 15) fun x2 =>
    Option.bind (f_M_minutesOf x2 (v10 / (10 : Int32)) (mj_irem v10 (10 : Int32)) h) fun x4 =>
    b_M_plan_216 F k91 v0 v1 v2 v3 v4 (s0 + s1) v8 v9 v7 x4 h
def b_M_plan_171 (F : Nat) (k91 : (Option Nat) → Int32 → Int32 → Int32 → Int32 → Int32 → Int32 → Int32 → Int32 → MH → (Option (Int32 × MH))) : (Option Nat) → (Int32) → (Int32) → (Int32) → (Int32) → (Int32) → (Int32) → (Int32) → (Int32) → (Int32) → (MH) → (Option (Int32 × MH)) := fun v0 v1 v2 v3 v4 v6 v7 v9 v10 s0 h => 
  if s0 = 0 then
    b_M_plan_185 F k91 v0 v1 v2 v3 v4 v7 s0 v9 v10 v6 (0 : Int32) h
  else
    b_M_plan_185 F k91 v0 v1 v2 v3 v4 v7 s0 v9 v10 v6 (1 : Int32) h
def b_M_plan_170 (F : Nat) (k91 : (Option Nat) → Int32 → Int32 → Int32 → Int32 → Int32 → Int32 → Int32 → Int32 → MH → (Option (Int32 × MH))) : (Option Nat) → (Int32) → (Int32) → (Int32) → (Int32) → (Int32) → (Int32) → (Int32) → (Int32) → (MH) → (Option (Int32 × MH)) := fun v0 v1 v2 v3 v4 v6 v7 v9 v10 h => 
  b_M_plan_171 F k91 v0 v1 v2 v3 v4 v6 v7 v9 v10 (0 : Int32) h
def b_M_plan_91 (F : Nat) : Nat → (Option Nat) → (Int32) → (Int32) → (Int32) → (Int32) → (Int32) → (Int32) → (Int32) → (Int32) → (MH) → (Option (Int32 × MH))
  | 0 => fun _ _ _ _ _ _ _ _ _ _ => none
  | n + 1 => fun v0 v1 v2 v3 v4 v6 v7 v8 v9 h => 
    if v3 ≤ v9 then
      b_M_plan_225 F v0 v4 v6 v7 h
    else
      if v8 = 0 then
        b_M_plan_225 F v0 v4 v6 v7 h
      else
        Option.bind (gfr h v0 [11] 12) fun x3 =>
        Option.bind (ald h x3 0 ((((40 : Int32) * v1) + v2) + v9)) fun x5 =>
        if x5 < 0 then
          b_M_plan_170 F (b_M_plan_91 F n) v0 v1 v2 v3 v4 v6 v7 v9 x5 h
        else
          Option.bind (onc h v0 11 (f_M_isHand v0 (x5 / (10 : Int32)) h)) fun x8 =>
          if x8 = 0 then
            b_M_plan_170 F (b_M_plan_91 F n) v0 v1 v2 v3 v4 v6 v7 v9 x5 h
          else
            if (8 : Int32) ≤ (mj_irem x5 (10 : Int32)) then
              b_M_plan_170 F (b_M_plan_91 F n) v0 v1 v2 v3 v4 v6 v7 v9 x5 h
            else
              Option.bind (gfr h v0 [11] 16) fun x12 =>
              Option.bind (f_M_goes x12 (x5 / (10 : Int32)) (mj_irem x5 (10 : Int32)) (0 : Int32) h) fun x14 =>
              if x14.1 = 0 then
                b_M_plan_170 F (b_M_plan_91 F n) v0 v1 v2 v3 v4 v6 v7 v9 x5 x14.2
              else
                b_M_plan_171 F (b_M_plan_91 F n) v0 v1 v2 v3 v4 v6 v7 v9 x5 (1 : Int32) x14.2
def f_M_plan (F : Nat) (v0 : Option Nat) (v1 : Int32) (v2 : Int32) (v3 : Int32) (v4 : Int32) (h : MH) : Option (Int32 × MH) :=
  Option.bind (pfv h v0 [11] 0 (.int (0 : Int32))) fun h1 =>
  Option.bind (gfr h1 v0 [11] 15) fun x3 =>
  Option.bind (ald h1 x3 0 (0 : Int32)) fun x5 =>
  if x5 = 0 then
    some ((-1000002 : Int32), h1)
  else
    if (f_M_isRow v1) = 0 then
      some ((-1000001 : Int32), h1)
    else
      if (f_M_in v3 (0 : Int32) (40 : Int32)) = 0 then
        some ((-1000001 : Int32), h1)
      else
        if (f_M_in v4 (0 : Int32) (1 : Int32)) = 0 then
          some ((-1000001 : Int32), h1)
        else
          Option.bind (onc h1 v0 11 (f_M_wrongRow v0 v1 v2 v3 h1)) fun x11 =>
          if x11 ≤ 0 then
            Option.bind (gfr h1 v0 [11] 15) fun x14 =>
            Option.bind (gfr h1 v0 [11] 16) fun x16 =>
            Option.bind (f_M_copies F x14 x16 h1) fun h18 =>
            b_M_plan_91 F F v0 v1 v2 v3 v4 (0 : Int32) (0 : Int32) (1 : Int32) (0 : Int32) h18
          else
            Option.bind (onc h1 v0 11 (f_M_finds v0 x11 h1)) fun x20 =>
            some (x20.1, x20.2)
set_option maxHeartbeats 4000000 in
set_option maxRecDepth 200000 in
theorem p_M_plan_238 (F : Nat) {h0 : MH} (s0 : Option Nat) (s1 : Int32) (h : MH) (r : (Int32 × MH)) : b_M_plan_238 F  s0 s1 h = some r → Rt mi_M_plan 6 h0 238 [] [.int s1, va_rf s0] h (some (.int r.1)) r.2 := by
  intro hyp
  unfold b_M_plan_238 at hyp
  obtain ⟨x1, e2, hyp⟩ := Option.bind_eq_some_iff.mp hyp
  refine rt_st (pc1 := 241) (fun _ _ B => go_callV1 (q := q_11) (st := []) [.int s1] (t_M_is s0 s1 h _ (onc_spec e2).2) mm_M_is (by decide) d_M_plan_238 (onc_spec e2).1 rfl rfl w1082 w1084 w30 rfl (Nat.le_of_ble_eq_true rfl) rfl B) ?_
  exact rt_eqW Value.int hyp (rt_int d_M_plan_241 rfl)
set_option maxHeartbeats 4000000 in
set_option maxRecDepth 200000 in
theorem p_M_plan_225 (F : Nat) {h0 : MH} (v0 : Option Nat) (v4 : Int32) (v6 : Int32) (v7 : Int32) (h : MH) (r : (Int32 × MH)) : b_M_plan_225 F  v0 v4 v6 v7 h = some r → Rt mi_M_plan 6 h0 225 [(0, va_rf v0), (4, .int v4), (6, .int v6), (7, .int v7)] [] h (some (.int r.1)) r.2 := by
  intro hyp
  unfold b_M_plan_225 at hyp
  refine rt_st (pc1 := 228) (fun _ _ B => go_aload_n 0 d_M_plan_225 rfl (go_iload 1 d_M_plan_226 rfl B)) ?_
  by_cases c1 : v4 = 0
  · replace hyp := (if_pos c1).symm.trans hyp
    refine rt_st (pc1 := 238) (fun _ _ B => go_if_ne_f d_M_plan_228 rfl c1 (go_iload 2 d_M_plan_231 rfl (go_goto 238 d_M_plan_233 rfl B))) ?_
    refine rt_sub [] (lv1 := []) rfl ?_
    exact p_M_plan_238 F _ _ _ r hyp
  · replace hyp := (if_neg c1).symm.trans hyp
    refine rt_st (pc1 := 238) (fun _ _ B => go_if_ne_t 236 d_M_plan_228 rfl c1 (go_iload 3 d_M_plan_236 rfl B)) ?_
    refine rt_sub [] (lv1 := []) rfl ?_
    exact p_M_plan_238 F _ _ _ r hyp
set_option maxHeartbeats 4000000 in
set_option maxRecDepth 200000 in
theorem p_M_plan_216 (F : Nat) {h0 : MH} (k91 : (Option Nat) → Int32 → Int32 → Int32 → Int32 → Int32 → Int32 → Int32 → Int32 → MH → (Option (Int32 × MH))) (hk91 : ∀ (v0 : Option Nat) (v1 : Int32) (v2 : Int32) (v3 : Int32) (v4 : Int32) (v6 : Int32) (v7 : Int32) (v8 : Int32) (v9 : Int32) (h : MH) (r : (Int32 × MH)), k91 v0 v1 v2 v3 v4 v6 v7 v8 v9 h = some r → Rt mi_M_plan 6 h0 91 [(0, va_rf v0), (1, .int v1), (2, .int v2), (3, .int v3), (4, .int v4), (6, .int v6), (7, .int v7), (8, .int v8), (9, .int v9)] [] h (some (.int r.1)) r.2) (v0 : Option Nat) (v1 : Int32) (v2 : Int32) (v3 : Int32) (v4 : Int32) (v6 : Int32) (v8 : Int32) (v9 : Int32) (s0 : Int32) (s1 : Int32) (h : MH) (r : (Int32 × MH)) : b_M_plan_216 F k91  v0 v1 v2 v3 v4 v6 v8 v9 s0 s1 h = some r → Rt mi_M_plan 6 h0 216 [(0, va_rf v0), (1, .int v1), (2, .int v2), (3, .int v3), (4, .int v4), (6, .int v6), (8, .int v8), (9, .int v9)] [.int s1, .int s0] h (some (.int r.1)) r.2 := by
  intro hyp
  unfold b_M_plan_216 at hyp
  refine rt_st (pc1 := 91) (fun _ _ B => go_iadd d_M_plan_216 (go_istore (lv1 := [(7, .int (s0 + s1)), (0, va_rf v0), (1, .int v1), (2, .int v2), (3, .int v3), (4, .int v4), (6, .int v6), (8, .int v8), (9, .int v9)]) d_M_plan_217 (by decide) rfl (go_iinc (v := (v9 + (1 : Int32))) (lv1 := [(9, .int (v9 + (1 : Int32))), (7, .int (s0 + s1)), (0, va_rf v0), (1, .int v1), (2, .int v2), (3, .int v3), (4, .int v4), (6, .int v6), (8, .int v8)]) 8 d_M_plan_219 rfl rfl (by decide) rfl (go_goto 91 d_M_plan_222 rfl B)))) ?_
  refine rt_sub [2, 3, 4, 5, 6, 7, 1, 8, 0] (lv1 := [(0, va_rf v0), (1, .int v1), (2, .int v2), (3, .int v3), (4, .int v4), (6, .int v6), (7, .int (s0 + s1)), (8, .int v8), (9, .int (v9 + (1 : Int32)))]) rfl ?_
  exact hk91 _ _ _ _ _ _ _ _ _ _ _ hyp
set_option maxHeartbeats 4000000 in
set_option maxRecDepth 200000 in
theorem p_M_plan_185 (F : Nat) {h0 : MH} (k91 : (Option Nat) → Int32 → Int32 → Int32 → Int32 → Int32 → Int32 → Int32 → Int32 → MH → (Option (Int32 × MH))) (hk91 : ∀ (v0 : Option Nat) (v1 : Int32) (v2 : Int32) (v3 : Int32) (v4 : Int32) (v6 : Int32) (v7 : Int32) (v8 : Int32) (v9 : Int32) (h : MH) (r : (Int32 × MH)), k91 v0 v1 v2 v3 v4 v6 v7 v8 v9 h = some r → Rt mi_M_plan 6 h0 91 [(0, va_rf v0), (1, .int v1), (2, .int v2), (3, .int v3), (4, .int v4), (6, .int v6), (7, .int v7), (8, .int v8), (9, .int v9)] [] h (some (.int r.1)) r.2) (v0 : Option Nat) (v1 : Int32) (v2 : Int32) (v3 : Int32) (v4 : Int32) (v7 : Int32) (v8 : Int32) (v9 : Int32) (v10 : Int32) (s0 : Int32) (s1 : Int32) (h : MH) (r : (Int32 × MH)) : b_M_plan_185 F k91  v0 v1 v2 v3 v4 v7 v8 v9 v10 s0 s1 h = some r → Rt mi_M_plan 6 h0 185 [(0, va_rf v0), (1, .int v1), (2, .int v2), (3, .int v3), (4, .int v4), (7, .int v7), (8, .int v8), (9, .int v9), (10, .int v10)] [.int s1, .int s0] h (some (.int r.1)) r.2 := by
  intro hyp
  unfold b_M_plan_185 at hyp
  refine rt_st (pc1 := 192) (fun _ _ B => go_iadd d_M_plan_185 (go_istore (lv1 := [(6, .int (s0 + s1)), (0, va_rf v0), (1, .int v1), (2, .int v2), (3, .int v3), (4, .int v4), (7, .int v7), (8, .int v8), (9, .int v9), (10, .int v10)]) d_M_plan_186 (by decide) rfl (go_iload 6 d_M_plan_188 rfl (go_iload 7 d_M_plan_190 rfl B)))) ?_
  by_cases c1 : v8 = 0
  · replace hyp := (if_pos c1).symm.trans hyp
    refine rt_st (pc1 := 216) (fun _ _ B => go_if_eq_t 215 d_M_plan_192 rfl c1 (go_iconst (v := (0 : Int32)) d_M_plan_215 (by decide) B)) ?_
    refine rt_sub [1, 2, 3, 4, 5, 0, 7, 8] (lv1 := [(0, va_rf v0), (1, .int v1), (2, .int v2), (3, .int v3), (4, .int v4), (6, .int (s0 + s1)), (8, .int v8), (9, .int v9)]) rfl ?_
    exact p_M_plan_216 F k91 hk91 _ _ _ _ _ _ _ _ _ _ _ r hyp
  · replace hyp := (if_neg c1).symm.trans hyp
    obtain ⟨x2, e3, hyp⟩ := Option.bind_eq_some_iff.mp hyp
    obtain ⟨x4, e5, hyp⟩ := Option.bind_eq_some_iff.mp hyp
    refine rt_st (pc1 := 216) (fun _ _ B => go_if_eq_f d_M_plan_192 rfl c1 (go_aload_n 1 d_M_plan_195 rfl (go_gfr d_M_plan_196 fd_11_15 w1004 e3 (go_iload 9 d_M_plan_199 rfl (go_bipush (v := (10 : Int32)) d_M_plan_201 (by decide) (go_idiv d_M_plan_203 (by decide) (go_iload 9 d_M_plan_204 rfl (go_bipush (v := (10 : Int32)) d_M_plan_206 (by decide) (go_irem d_M_plan_208 (by decide) (go_callS1 (st := [.int v7]) [va_rf x2, .int (v10 / (10 : Int32)), .int (mj_irem v10 (10 : Int32))] (t_M_minutesOf x2 (v10 / (10 : Int32)) (mj_irem v10 (10 : Int32)) h _ e5) mm_M_minutesOf (by decide) d_M_plan_209 w1201 w1202 rfl (Nat.le_of_ble_eq_true rfl) rfl (go_goto 216 d_M_plan_212 rfl B))))))))))) ?_
    refine rt_sub [1, 2, 3, 4, 5, 0, 7, 8] (lv1 := [(0, va_rf v0), (1, .int v1), (2, .int v2), (3, .int v3), (4, .int v4), (6, .int (s0 + s1)), (8, .int v8), (9, .int v9)]) rfl ?_
    exact p_M_plan_216 F k91 hk91 _ _ _ _ _ _ _ _ _ _ _ r hyp
set_option maxHeartbeats 4000000 in
set_option maxRecDepth 200000 in
theorem p_M_plan_171 (F : Nat) {h0 : MH} (k91 : (Option Nat) → Int32 → Int32 → Int32 → Int32 → Int32 → Int32 → Int32 → Int32 → MH → (Option (Int32 × MH))) (hk91 : ∀ (v0 : Option Nat) (v1 : Int32) (v2 : Int32) (v3 : Int32) (v4 : Int32) (v6 : Int32) (v7 : Int32) (v8 : Int32) (v9 : Int32) (h : MH) (r : (Int32 × MH)), k91 v0 v1 v2 v3 v4 v6 v7 v8 v9 h = some r → Rt mi_M_plan 6 h0 91 [(0, va_rf v0), (1, .int v1), (2, .int v2), (3, .int v3), (4, .int v4), (6, .int v6), (7, .int v7), (8, .int v8), (9, .int v9)] [] h (some (.int r.1)) r.2) (v0 : Option Nat) (v1 : Int32) (v2 : Int32) (v3 : Int32) (v4 : Int32) (v6 : Int32) (v7 : Int32) (v9 : Int32) (v10 : Int32) (s0 : Int32) (h : MH) (r : (Int32 × MH)) : b_M_plan_171 F k91  v0 v1 v2 v3 v4 v6 v7 v9 v10 s0 h = some r → Rt mi_M_plan 6 h0 171 [(0, va_rf v0), (1, .int v1), (2, .int v2), (3, .int v3), (4, .int v4), (6, .int v6), (7, .int v7), (9, .int v9), (10, .int v10)] [.int s0] h (some (.int r.1)) r.2 := by
  intro hyp
  unfold b_M_plan_171 at hyp
  refine rt_st (pc1 := 177) (fun _ _ B => go_istore (lv1 := [(8, .int s0), (0, va_rf v0), (1, .int v1), (2, .int v2), (3, .int v3), (4, .int v4), (6, .int v6), (7, .int v7), (9, .int v9), (10, .int v10)]) d_M_plan_171 (by decide) rfl (go_iload 6 d_M_plan_173 rfl (go_iload 0 d_M_plan_175 rfl B))) ?_
  by_cases c1 : s0 = 0
  · replace hyp := (if_pos c1).symm.trans hyp
    refine rt_st (pc1 := 185) (fun _ _ B => go_if_eq_t 184 d_M_plan_177 rfl c1 (go_iconst (v := (0 : Int32)) d_M_plan_184 (by decide) B)) ?_
    refine rt_sub [1, 2, 3, 4, 5, 7, 0, 8, 9] (lv1 := [(0, va_rf v0), (1, .int v1), (2, .int v2), (3, .int v3), (4, .int v4), (7, .int v7), (8, .int s0), (9, .int v9), (10, .int v10)]) rfl ?_
    exact p_M_plan_185 F k91 hk91 _ _ _ _ _ _ _ _ _ _ _ _ r hyp
  · replace hyp := (if_neg c1).symm.trans hyp
    refine rt_st (pc1 := 185) (fun _ _ B => go_if_eq_f d_M_plan_177 rfl c1 (go_iconst (v := (1 : Int32)) d_M_plan_180 (by decide) (go_goto 185 d_M_plan_181 rfl B))) ?_
    refine rt_sub [1, 2, 3, 4, 5, 7, 0, 8, 9] (lv1 := [(0, va_rf v0), (1, .int v1), (2, .int v2), (3, .int v3), (4, .int v4), (7, .int v7), (8, .int s0), (9, .int v9), (10, .int v10)]) rfl ?_
    exact p_M_plan_185 F k91 hk91 _ _ _ _ _ _ _ _ _ _ _ _ r hyp
set_option maxHeartbeats 4000000 in
set_option maxRecDepth 200000 in
theorem p_M_plan_170 (F : Nat) {h0 : MH} (k91 : (Option Nat) → Int32 → Int32 → Int32 → Int32 → Int32 → Int32 → Int32 → Int32 → MH → (Option (Int32 × MH))) (hk91 : ∀ (v0 : Option Nat) (v1 : Int32) (v2 : Int32) (v3 : Int32) (v4 : Int32) (v6 : Int32) (v7 : Int32) (v8 : Int32) (v9 : Int32) (h : MH) (r : (Int32 × MH)), k91 v0 v1 v2 v3 v4 v6 v7 v8 v9 h = some r → Rt mi_M_plan 6 h0 91 [(0, va_rf v0), (1, .int v1), (2, .int v2), (3, .int v3), (4, .int v4), (6, .int v6), (7, .int v7), (8, .int v8), (9, .int v9)] [] h (some (.int r.1)) r.2) (v0 : Option Nat) (v1 : Int32) (v2 : Int32) (v3 : Int32) (v4 : Int32) (v6 : Int32) (v7 : Int32) (v9 : Int32) (v10 : Int32) (h : MH) (r : (Int32 × MH)) : b_M_plan_170 F k91  v0 v1 v2 v3 v4 v6 v7 v9 v10 h = some r → Rt mi_M_plan 6 h0 170 [(0, va_rf v0), (1, .int v1), (2, .int v2), (3, .int v3), (4, .int v4), (6, .int v6), (7, .int v7), (9, .int v9), (10, .int v10)] [] h (some (.int r.1)) r.2 := by
  intro hyp
  unfold b_M_plan_170 at hyp
  refine rt_st (pc1 := 171) (fun _ _ B => go_iconst (v := (0 : Int32)) d_M_plan_170 (by decide) B) ?_
  exact p_M_plan_171 F k91 hk91 _ _ _ _ _ _ _ _ _ _ _ r hyp
set_option maxHeartbeats 4000000 in
set_option maxRecDepth 200000 in
theorem p_M_plan_91 (F : Nat) {h0 : MH} : ∀ (n : Nat) (v0 : Option Nat) (v1 : Int32) (v2 : Int32) (v3 : Int32) (v4 : Int32) (v6 : Int32) (v7 : Int32) (v8 : Int32) (v9 : Int32) (h : MH) (r : (Int32 × MH)), b_M_plan_91 F  n v0 v1 v2 v3 v4 v6 v7 v8 v9 h = some r → Rt mi_M_plan 6 h0 91 [(0, va_rf v0), (1, .int v1), (2, .int v2), (3, .int v3), (4, .int v4), (6, .int v6), (7, .int v7), (8, .int v8), (9, .int v9)] [] h (some (.int r.1)) r.2 := by
  intro n
  induction n with
  | zero =>
    intro v0 v1 v2 v3 v4 v6 v7 v8 v9 h r hyp
    cases hyp
  | succ n ih =>
    intro v0 v1 v2 v3 v4 v6 v7 v8 v9 h r hyp
    unfold b_M_plan_91 at hyp
    refine rt_st (pc1 := 94) (fun _ _ B => go_iload 8 d_M_plan_91 rfl (go_iload_n 3 d_M_plan_93 rfl B)) ?_
    by_cases c1 : v3 ≤ v9
    · replace hyp := (if_pos c1).symm.trans hyp
      refine rt_st (pc1 := 225) (fun _ _ B => go_icmp_ge_t 225 d_M_plan_94 rfl c1 B) ?_
      refine rt_sub [0, 4, 5, 6] (lv1 := [(0, va_rf v0), (4, .int v4), (6, .int v6), (7, .int v7)]) rfl ?_
      exact p_M_plan_225 F _ _ _ _ _ r hyp
    · replace hyp := (if_neg c1).symm.trans hyp
      refine rt_st (pc1 := 99) (fun _ _ B => go_icmp_ge_f d_M_plan_94 rfl c1 (go_iload 7 d_M_plan_97 rfl B)) ?_
      by_cases c2 : v8 = 0
      · replace hyp := (if_pos c2).symm.trans hyp
        refine rt_st (pc1 := 225) (fun _ _ B => go_if_eq_t 225 d_M_plan_99 rfl c2 B) ?_
        refine rt_sub [0, 4, 5, 6] (lv1 := [(0, va_rf v0), (4, .int v4), (6, .int v6), (7, .int v7)]) rfl ?_
        exact p_M_plan_225 F _ _ _ _ _ r hyp
      · replace hyp := (if_neg c2).symm.trans hyp
        obtain ⟨x3, e4, hyp⟩ := Option.bind_eq_some_iff.mp hyp
        obtain ⟨x5, e6, hyp⟩ := Option.bind_eq_some_iff.mp hyp
        refine rt_st (pc1 := 120) (fun _ _ B => go_if_eq_f d_M_plan_99 rfl c2 (go_aload_n 0 d_M_plan_102 rfl (go_gfr d_M_plan_103 fd_11_12 w1001 e4 (go_bipush (v := (40 : Int32)) d_M_plan_106 (by decide) (go_iload_n 1 d_M_plan_108 rfl (go_imul d_M_plan_109 (go_iload_n 2 d_M_plan_110 rfl (go_iadd d_M_plan_111 (go_iload 8 d_M_plan_112 rfl (go_iadd d_M_plan_114 (go_iald d_M_plan_115 e6 (go_istore (lv1 := [(10, .int x5), (0, va_rf v0), (1, .int v1), (2, .int v2), (3, .int v3), (4, .int v4), (6, .int v6), (7, .int v7), (8, .int v8), (9, .int v9)]) d_M_plan_116 (by decide) rfl (go_iload 0 d_M_plan_118 rfl B))))))))))))) ?_
        by_cases c7 : x5 < 0
        · replace hyp := (if_pos c7).symm.trans hyp
          refine rt_st (pc1 := 170) (fun _ _ B => go_if_lt_t 170 d_M_plan_120 rfl c7 B) ?_
          refine rt_sub [1, 2, 3, 4, 5, 6, 7, 9, 0] (lv1 := [(0, va_rf v0), (1, .int v1), (2, .int v2), (3, .int v3), (4, .int v4), (6, .int v6), (7, .int v7), (9, .int v9), (10, .int x5)]) rfl ?_
          exact p_M_plan_170 F (b_M_plan_91 F n) (fun a0 a1 a2 a3 a4 a5 a6 a7 a8 a9 r hyp => ih a0 a1 a2 a3 a4 a5 a6 a7 a8 a9 r hyp) _ _ _ _ _ _ _ _ _ _ r hyp
        · replace hyp := (if_neg c7).symm.trans hyp
          obtain ⟨x8, e9, hyp⟩ := Option.bind_eq_some_iff.mp hyp
          refine rt_st (pc1 := 132) (fun _ _ B => go_if_lt_f d_M_plan_120 rfl c7 (go_aload_n 1 d_M_plan_123 rfl (go_iload 0 d_M_plan_124 rfl (go_bipush (v := (10 : Int32)) d_M_plan_126 (by decide) (go_idiv d_M_plan_128 (by decide) (go_callV1 (q := q_11) (st := []) [.int (x5 / (10 : Int32))] (t_M_isHand v0 (x5 / (10 : Int32)) h _ (onc_spec e9).2) mm_M_isHand (by decide) d_M_plan_129 (onc_spec e9).1 rfl rfl w1169 w1171 w40 rfl (Nat.le_of_ble_eq_true rfl) rfl B)))))) ?_
          by_cases c10 : x8 = 0
          · replace hyp := (if_pos c10).symm.trans hyp
            refine rt_st (pc1 := 170) (fun _ _ B => go_if_eq_t 170 d_M_plan_132 rfl c10 B) ?_
            refine rt_sub [1, 2, 3, 4, 5, 6, 7, 9, 0] (lv1 := [(0, va_rf v0), (1, .int v1), (2, .int v2), (3, .int v3), (4, .int v4), (6, .int v6), (7, .int v7), (9, .int v9), (10, .int x5)]) rfl ?_
            exact p_M_plan_170 F (b_M_plan_91 F n) (fun a0 a1 a2 a3 a4 a5 a6 a7 a8 a9 r hyp => ih a0 a1 a2 a3 a4 a5 a6 a7 a8 a9 r hyp) _ _ _ _ _ _ _ _ _ _ r hyp
          · replace hyp := (if_neg c10).symm.trans hyp
            refine rt_st (pc1 := 142) (fun _ _ B => go_if_eq_f d_M_plan_132 rfl c10 (go_iload 0 d_M_plan_135 rfl (go_bipush (v := (10 : Int32)) d_M_plan_137 (by decide) (go_irem d_M_plan_139 (by decide) (go_bipush (v := (8 : Int32)) d_M_plan_140 (by decide) B))))) ?_
            by_cases c11 : (8 : Int32) ≤ (mj_irem x5 (10 : Int32))
            · replace hyp := (if_pos c11).symm.trans hyp
              refine rt_st (pc1 := 170) (fun _ _ B => go_icmp_ge_t 170 d_M_plan_142 rfl c11 B) ?_
              refine rt_sub [1, 2, 3, 4, 5, 6, 7, 9, 0] (lv1 := [(0, va_rf v0), (1, .int v1), (2, .int v2), (3, .int v3), (4, .int v4), (6, .int v6), (7, .int v7), (9, .int v9), (10, .int x5)]) rfl ?_
              exact p_M_plan_170 F (b_M_plan_91 F n) (fun a0 a1 a2 a3 a4 a5 a6 a7 a8 a9 r hyp => ih a0 a1 a2 a3 a4 a5 a6 a7 a8 a9 r hyp) _ _ _ _ _ _ _ _ _ _ r hyp
            · replace hyp := (if_neg c11).symm.trans hyp
              obtain ⟨x12, e13, hyp⟩ := Option.bind_eq_some_iff.mp hyp
              obtain ⟨x14, e15, hyp⟩ := Option.bind_eq_some_iff.mp hyp
              refine rt_st (pc1 := 163) (fun _ _ B => go_icmp_ge_f d_M_plan_142 rfl c11 (go_aload_n 1 d_M_plan_145 rfl (go_gfr d_M_plan_146 fd_11_16 w1005 e13 (go_iload 0 d_M_plan_149 rfl (go_bipush (v := (10 : Int32)) d_M_plan_151 (by decide) (go_idiv d_M_plan_153 (by decide) (go_iload 0 d_M_plan_154 rfl (go_bipush (v := (10 : Int32)) d_M_plan_156 (by decide) (go_irem d_M_plan_158 (by decide) (go_iconst (v := (0 : Int32)) d_M_plan_159 (by decide) (go_callS1 (st := []) [va_rf x12, .int (x5 / (10 : Int32)), .int (mj_irem x5 (10 : Int32)), .int (0 : Int32)] (t_M_goes x12 (x5 / (10 : Int32)) (mj_irem x5 (10 : Int32)) (0 : Int32) h _ e15) mm_M_goes (by decide) d_M_plan_160 w1173 w1174 rfl (Nat.le_of_ble_eq_true rfl) rfl B))))))))))) ?_
              by_cases c16 : x14.1 = 0
              · replace hyp := (if_pos c16).symm.trans hyp
                refine rt_st (pc1 := 170) (fun _ _ B => go_if_eq_t 170 d_M_plan_163 rfl c16 B) ?_
                refine rt_sub [1, 2, 3, 4, 5, 6, 7, 9, 0] (lv1 := [(0, va_rf v0), (1, .int v1), (2, .int v2), (3, .int v3), (4, .int v4), (6, .int v6), (7, .int v7), (9, .int v9), (10, .int x5)]) rfl ?_
                exact p_M_plan_170 F (b_M_plan_91 F n) (fun a0 a1 a2 a3 a4 a5 a6 a7 a8 a9 r hyp => ih a0 a1 a2 a3 a4 a5 a6 a7 a8 a9 r hyp) _ _ _ _ _ _ _ _ _ _ r hyp
              · replace hyp := (if_neg c16).symm.trans hyp
                refine rt_st (pc1 := 171) (fun _ _ B => go_if_eq_f d_M_plan_163 rfl c16 (go_iconst (v := (1 : Int32)) d_M_plan_166 (by decide) (go_goto 171 d_M_plan_167 rfl B))) ?_
                refine rt_sub [1, 2, 3, 4, 5, 6, 7, 9, 0] (lv1 := [(0, va_rf v0), (1, .int v1), (2, .int v2), (3, .int v3), (4, .int v4), (6, .int v6), (7, .int v7), (9, .int v9), (10, .int x5)]) rfl ?_
                exact p_M_plan_171 F (b_M_plan_91 F n) (fun a0 a1 a2 a3 a4 a5 a6 a7 a8 a9 r hyp => ih a0 a1 a2 a3 a4 a5 a6 a7 a8 a9 r hyp) _ _ _ _ _ _ _ _ _ _ _ r hyp
set_option maxHeartbeats 4000000 in
set_option maxRecDepth 200000 in
theorem t_M_plan (F : Nat) (v0 : Option Nat) (v1 : Int32) (v2 : Int32) (v3 : Int32) (v4 : Int32) (h : MH) (r : (Int32 × MH)) (hyp : f_M_plan F v0 v1 v2 v3 v4 h = some r) : Mt mi_M_plan 6 [va_rf v0, .int v1, .int v2, .int v3, .int v4] h (some (.int r.1)) r.2 := by
  refine Mt.rt (lv := [(0, va_rf v0), (1, .int v1), (2, .int v2), (3, .int v3), (4, .int v4)]) (by decide +kernel) (by simp [lv_args, mj_rfc, mj_cti, mj_ctl]) (by simp [mj_rfc, mj_cti, mj_ctl]) ?_
  unfold f_M_plan at hyp
  obtain ⟨h1, e2, hyp⟩ := Option.bind_eq_some_iff.mp hyp
  obtain ⟨x3, e4, hyp⟩ := Option.bind_eq_some_iff.mp hyp
  obtain ⟨x5, e6, hyp⟩ := Option.bind_eq_some_iff.mp hyp
  refine rt_st (pc1 := 11) (fun _ _ B => go_aload_n 0 d_M_plan_0 rfl (go_iconst (v := (0 : Int32)) d_M_plan_1 (by decide) (go_pfi d_M_plan_2 fd_11_0 w989 (fun q => by cases q) e2 (go_aload_n 0 d_M_plan_5 rfl (go_gfr d_M_plan_6 fd_11_15 w1004 e4 (go_iconst (v := (0 : Int32)) d_M_plan_9 (by decide) (go_iald d_M_plan_10 e6 B))))))) ?_
  by_cases c7 : x5 = 0
  · replace hyp := (if_pos c7).symm.trans hyp
    refine rt_st (pc1 := 16) (fun _ _ B => go_if_ne_f d_M_plan_11 rfl c7 (go_ldc (v := (-1000002 : Int32)) d_M_plan_14 w1164 B)) ?_
    exact rt_eqW Value.int hyp (rt_int d_M_plan_16 rfl)
  · replace hyp := (if_neg c7).symm.trans hyp
    refine rt_st (pc1 := 21) (fun _ _ B => go_if_ne_t 17 d_M_plan_11 rfl c7 (go_iload_n 1 d_M_plan_17 rfl (go_callS1 (st := []) [.int v1] (t_M_isRow v1 h1) mm_M_isRow (by decide) d_M_plan_18 w1070 w1071 rfl (Nat.le_of_ble_eq_true rfl) rfl B))) ?_
    by_cases c8 : (f_M_isRow v1) = 0
    · replace hyp := (if_pos c8).symm.trans hyp
      refine rt_st (pc1 := 46) (fun _ _ B => go_if_eq_t 44 d_M_plan_21 rfl c8 (go_ldc (v := (-1000001 : Int32)) d_M_plan_44 w1076 B)) ?_
      exact rt_eqW Value.int hyp (rt_int d_M_plan_46 rfl)
    · replace hyp := (if_neg c8).symm.trans hyp
      refine rt_st (pc1 := 31) (fun _ _ B => go_if_eq_f d_M_plan_21 rfl c8 (go_iload_n 3 d_M_plan_24 rfl (go_iconst (v := (0 : Int32)) d_M_plan_25 (by decide) (go_bipush (v := (40 : Int32)) d_M_plan_26 (by decide) (go_callS1 (st := []) [.int v3, .int (0 : Int32), .int (40 : Int32)] (t_M_in v3 (0 : Int32) (40 : Int32) h1) mm_M_in (by decide) d_M_plan_28 w1073 w1074 rfl (Nat.le_of_ble_eq_true rfl) rfl B))))) ?_
      by_cases c9 : (f_M_in v3 (0 : Int32) (40 : Int32)) = 0
      · replace hyp := (if_pos c9).symm.trans hyp
        refine rt_st (pc1 := 46) (fun _ _ B => go_if_eq_t 44 d_M_plan_31 rfl c9 (go_ldc (v := (-1000001 : Int32)) d_M_plan_44 w1076 B)) ?_
        exact rt_eqW Value.int hyp (rt_int d_M_plan_46 rfl)
      · replace hyp := (if_neg c9).symm.trans hyp
        refine rt_st (pc1 := 41) (fun _ _ B => go_if_eq_f d_M_plan_31 rfl c9 (go_iload 4 d_M_plan_34 rfl (go_iconst (v := (0 : Int32)) d_M_plan_36 (by decide) (go_iconst (v := (1 : Int32)) d_M_plan_37 (by decide) (go_callS1 (st := []) [.int v4, .int (0 : Int32), .int (1 : Int32)] (t_M_in v4 (0 : Int32) (1 : Int32) h1) mm_M_in (by decide) d_M_plan_38 w1073 w1074 rfl (Nat.le_of_ble_eq_true rfl) rfl B))))) ?_
        by_cases c10 : (f_M_in v4 (0 : Int32) (1 : Int32)) = 0
        · replace hyp := (if_pos c10).symm.trans hyp
          refine rt_st (pc1 := 46) (fun _ _ B => go_if_ne_f d_M_plan_41 rfl c10 (go_ldc (v := (-1000001 : Int32)) d_M_plan_44 w1076 B)) ?_
          exact rt_eqW Value.int hyp (rt_int d_M_plan_46 rfl)
        · replace hyp := (if_neg c10).symm.trans hyp
          obtain ⟨x11, e12, hyp⟩ := Option.bind_eq_some_iff.mp hyp
          refine rt_st (pc1 := 58) (fun _ _ B => go_if_ne_t 47 d_M_plan_41 rfl c10 (go_aload_n 0 d_M_plan_47 rfl (go_iload_n 1 d_M_plan_48 rfl (go_iload_n 2 d_M_plan_49 rfl (go_iload_n 3 d_M_plan_50 rfl (go_callV1 (q := q_11) (st := []) [.int v1, .int v2, .int v3] (t_M_wrongRow v0 v1 v2 v3 h1 _ (onc_spec e12).2) mm_M_wrongRow (by decide) d_M_plan_51 (onc_spec e12).1 rfl rfl w1294 w1296 w47 rfl (Nat.le_of_ble_eq_true rfl) rfl (go_istore (lv1 := [(5, .int x11), (0, va_rf v0), (1, .int v1), (2, .int v2), (3, .int v3), (4, .int v4)]) d_M_plan_54 (by decide) rfl (go_iload 0 d_M_plan_56 rfl B)))))))) ?_
          by_cases c13 : x11 ≤ 0
          · replace hyp := (if_pos c13).symm.trans hyp
            obtain ⟨x14, e15, hyp⟩ := Option.bind_eq_some_iff.mp hyp
            obtain ⟨x16, e17, hyp⟩ := Option.bind_eq_some_iff.mp hyp
            obtain ⟨h18, e19, hyp⟩ := Option.bind_eq_some_iff.mp hyp
            refine rt_st (pc1 := 91) (fun _ _ B => go_if_le_t 68 d_M_plan_58 rfl c13 (go_aload_n 1 d_M_plan_68 rfl (go_gfr d_M_plan_69 fd_11_15 w1004 e15 (go_aload_n 1 d_M_plan_72 rfl (go_gfr d_M_plan_73 fd_11_16 w1005 e17 (go_callS0 (st := []) [va_rf x14, va_rf x16] (t_M_copies F x14 x16 h1 _ e19) mm_M_copies (by decide) d_M_plan_76 w1153 w1154 rfl (Nat.le_of_ble_eq_true rfl) rfl (go_iconst (v := (0 : Int32)) d_M_plan_79 (by decide) (go_istore (lv1 := [(6, .int (0 : Int32)), (5, .int x11), (0, va_rf v0), (1, .int v1), (2, .int v2), (3, .int v3), (4, .int v4)]) d_M_plan_80 (by decide) rfl (go_iconst (v := (0 : Int32)) d_M_plan_82 (by decide) (go_istore (lv1 := [(7, .int (0 : Int32)), (6, .int (0 : Int32)), (5, .int x11), (0, va_rf v0), (1, .int v1), (2, .int v2), (3, .int v3), (4, .int v4)]) d_M_plan_83 (by decide) rfl (go_iconst (v := (1 : Int32)) d_M_plan_85 (by decide) (go_istore (lv1 := [(8, .int (1 : Int32)), (7, .int (0 : Int32)), (6, .int (0 : Int32)), (5, .int x11), (0, va_rf v0), (1, .int v1), (2, .int v2), (3, .int v3), (4, .int v4)]) d_M_plan_86 (by decide) rfl (go_iconst (v := (0 : Int32)) d_M_plan_88 (by decide) (go_istore (lv1 := [(9, .int (0 : Int32)), (8, .int (1 : Int32)), (7, .int (0 : Int32)), (6, .int (0 : Int32)), (5, .int x11), (0, va_rf v0), (1, .int v1), (2, .int v2), (3, .int v3), (4, .int v4)]) d_M_plan_89 (by decide) rfl B)))))))))))))) ?_
            refine rt_sub [5, 6, 7, 8, 9, 3, 2, 1, 0] (lv1 := [(0, va_rf v0), (1, .int v1), (2, .int v2), (3, .int v3), (4, .int v4), (6, .int (0 : Int32)), (7, .int (0 : Int32)), (8, .int (1 : Int32)), (9, .int (0 : Int32))]) rfl ?_
            exact p_M_plan_91 F F _ _ _ _ _ _ _ _ _ _ r hyp
          · replace hyp := (if_neg c13).symm.trans hyp
            obtain ⟨x20, e21, hyp⟩ := Option.bind_eq_some_iff.mp hyp
            refine rt_st (pc1 := 67) (fun _ _ B => go_if_le_f d_M_plan_58 rfl c13 (go_aload_n 1 d_M_plan_61 rfl (go_iload 0 d_M_plan_62 rfl (go_callV1 (q := q_11) (st := []) [.int x11] (t_M_finds v0 x11 h1 _ (onc_spec e21).2) mm_M_finds (by decide) d_M_plan_64 (onc_spec e21).1 rfl rfl w1077 w1079 w29 rfl (Nat.le_of_ble_eq_true rfl) rfl B)))) ?_
            exact rt_eqW Value.int hyp (rt_int d_M_plan_67 rfl)
/-! WideTurnModel.seen(IIII)I -/
def b_M_seen_344 (F : Nat) : (Option Nat) → (Int32) → (MH) → (Option (Int32 × MH)) := fun s0 s1 h => 
  Option.bind (onc h s0 11 (f_M_is s0 s1 h)) fun x1 =>
  some (x1.1, x1.2)
def b_M_seen_309 (F : Nat) (k74 : (Option Nat) → Int32 → Int32 → Int32 → Int32 → Int32 → Int32 → MH → (Option (Int32 × MH))) (k82 : (Option Nat) → Int32 → Int32 → Int32 → Int32 → Int32 → Int32 → Int32 → MH → (Option (Int32 × MH))) : (Option Nat) → (Int32) → (Int32) → (Int32) → (Int32) → (Int32) → (Int32) → (Int32) → (MH) → (Option (Int32 × MH)) := fun v0 v1 v2 v3 v4 v6 v7 v8 h => 
  k82 v0 v1 v2 v3 v4 v6 v7 (v8 + (1 : Int32)) h
def b_M_seen_276 (F : Nat) (k74 : (Option Nat) → Int32 → Int32 → Int32 → Int32 → Int32 → Int32 → MH → (Option (Int32 × MH))) (k82 : (Option Nat) → Int32 → Int32 → Int32 → Int32 → Int32 → Int32 → Int32 → MH → (Option (Int32 × MH))) (k118 : (Option Nat) → Int32 → Int32 → Int32 → Int32 → Int32 → Int32 → Int32 → Int32 → MH → (Option (Int32 × MH))) (k138 : (Option Nat) → Int32 → Int32 → Int32 → Int32 → Int32 → Int32 → Int32 → Int32 → Int32 → MH → (Option (Int32 × MH))) : (Option Nat) → (Int32) → (Int32) → (Int32) → (Int32) → (Int32) → (Int32) → (Int32) → (Int32) → (Int32) → (Int32) → (MH) → (Option (Int32 × MH)) := fun v0 v1 v2 v3 v4 v7 v8 v9 v10 v12 s0 h => 
  Option.bind (gfr h v0 [11] 24) fun x1 =>
  Option.bind (ald h x1 0 (((576 : Int32) * v7) + v8)) fun x3 =>
  Option.bind (ast h x1 0 (((576 : Int32) * v7) + v8) (x3 + v12)) fun h5 =>
  k138 v0 v1 v2 v3 v4 s0 v7 v8 v9 (v10 + (1 : Int32)) h5
def b_M_seen_274 (F : Nat) (k74 : (Option Nat) → Int32 → Int32 → Int32 → Int32 → Int32 → Int32 → MH → (Option (Int32 × MH))) (k82 : (Option Nat) → Int32 → Int32 → Int32 → Int32 → Int32 → Int32 → Int32 → MH → (Option (Int32 × MH))) (k118 : (Option Nat) → Int32 → Int32 → Int32 → Int32 → Int32 → Int32 → Int32 → Int32 → MH → (Option (Int32 × MH))) (k138 : (Option Nat) → Int32 → Int32 → Int32 → Int32 → Int32 → Int32 → Int32 → Int32 → Int32 → MH → (Option (Int32 × MH))) : (Option Nat) → (Int32) → (Int32) → (Int32) → (Int32) → (Int32) → (Int32) → (Int32) → (Int32) → (Int32) → (Int32) → (MH) → (Option (Int32 × MH)) := fun v0 v1 v2 v3 v4 v6 v7 v8 v9 v10 v12 h => 
  b_M_seen_276 F k74 k82 k118 k138 v0 v1 v2 v3 v4 v7 v8 v9 v10 v12 v6 h
def b_M_seen_232 (F : Nat) (k74 : (Option Nat) → Int32 → Int32 → Int32 → Int32 → Int32 → Int32 → MH → (Option (Int32 × MH))) (k82 : (Option Nat) → Int32 → Int32 → Int32 → Int32 → Int32 → Int32 → Int32 → MH → (Option (Int32 × MH))) (k118 : (Option Nat) → Int32 → Int32 → Int32 → Int32 → Int32 → Int32 → Int32 → Int32 → MH → (Option (Int32 × MH))) (k138 : (Option Nat) → Int32 → Int32 → Int32 → Int32 → Int32 → Int32 → Int32 → Int32 → Int32 → MH → (Option (Int32 × MH))) : (Option Nat) → (Int32) → (Int32) → (Int32) → (Int32) → (Int32) → (Int32) → (Int32) → (Int32) → (Int32) → (Int32) → (MH) → (Option (Int32 × MH)) := fun v0 v1 v2 v3 v4 v6 v7 v8 v9 v10 s0 h => 
  if s0 ≤ 0 then
    b_M_seen_274 F k74 k82 k118 k138 v0 v1 v2 v3 v4 v6 v7 v8 v9 v10 s0 h
  else
    if v7 = 0 then
      Option.bind (gfr h v0 [11] 15) fun x3 =>
      Option.bind (f_M_node x3 h) fun x5 =>
      if v8 = x5 then
        if v6 = (-1000000 : Int32) then
          b_M_seen_276 F k74 k82 k118 k138 v0 v1 v2 v3 v4 v7 v8 v9 v10 s0 (((10 : Int32) * v9) + v10) h
        else
          b_M_seen_274 F k74 k82 k118 k138 v0 v1 v2 v3 v4 v6 v7 v8 v9 v10 s0 h
      else
        b_M_seen_274 F k74 k82 k118 k138 v0 v1 v2 v3 v4 v6 v7 v8 v9 v10 s0 h
    else
      b_M_seen_274 F k74 k82 k118 k138 v0 v1 v2 v3 v4 v6 v7 v8 v9 v10 s0 h
def b_M_seen_231 (F : Nat) (k74 : (Option Nat) → Int32 → Int32 → Int32 → Int32 → Int32 → Int32 → MH → (Option (Int32 × MH))) (k82 : (Option Nat) → Int32 → Int32 → Int32 → Int32 → Int32 → Int32 → Int32 → MH → (Option (Int32 × MH))) (k118 : (Option Nat) → Int32 → Int32 → Int32 → Int32 → Int32 → Int32 → Int32 → Int32 → MH → (Option (Int32 × MH))) (k138 : (Option Nat) → Int32 → Int32 → Int32 → Int32 → Int32 → Int32 → Int32 → Int32 → Int32 → MH → (Option (Int32 × MH))) : (Option Nat) → (Int32) → (Int32) → (Int32) → (Int32) → (Int32) → (Int32) → (Int32) → (Int32) → (Int32) → (MH) → (Option (Int32 × MH)) := fun v0 v1 v2 v3 v4 v6 v7 v8 v9 v10 h => 
  b_M_seen_232 F k74 k82 k118 k138 v0 v1 v2 v3 v4 v6 v7 v8 v9 v10 (0 : Int32) h
def b_M_seen_181 (F : Nat) (k74 : (Option Nat) → Int32 → Int32 → Int32 → Int32 → Int32 → Int32 → MH → (Option (Int32 × MH))) (k82 : (Option Nat) → Int32 → Int32 → Int32 → Int32 → Int32 → Int32 → Int32 → MH → (Option (Int32 × MH))) (k118 : (Option Nat) → Int32 → Int32 → Int32 → Int32 → Int32 → Int32 → Int32 → Int32 → MH → (Option (Int32 × MH))) (k138 : (Option Nat) → Int32 → Int32 → Int32 → Int32 → Int32 → Int32 → Int32 → Int32 → Int32 → MH → (Option (Int32 × MH))) : (Option Nat) → (Int32) → (Int32) → (Int32) → (Int32) → (Int32) → (Int32) → (Int32) → (Int32) → (Int32) → (Int32) → (MH) → (Option (Int32 × MH)) := fun v0 v1 v2 v3 v4 v6 v7 v8 v9 v10 s0 h => 
  if s0 = (-1000000 : Int32) then
    b_M_seen_231 F k74 k82 k118 k138 v0 v1 v2 v3 v4 v6 v7 v8 v9 v10 h
  else
    Option.bind (gfr h v0 [11] 12) fun x2 =>
    Option.bind (ald h x2 0 ((((40 : Int32) * v1) + v2) + v7)) fun x4 =>
    if (s0 / (24 : Int32)) = x4 then
      Option.bind (gfr h v0 [11] 24) fun x7 =>
      Option.bind (ald h x7 0 (((576 : Int32) * (v7 + (1 : Int32))) + s0)) fun x9 =>
      b_M_seen_232 F k74 k82 k118 k138 v0 v1 v2 v3 v4 v6 v7 v8 v9 v10 x9 h
    else
      b_M_seen_231 F k74 k82 k118 k138 v0 v1 v2 v3 v4 v6 v7 v8 v9 v10 h
def b_M_seen_138 (F : Nat) (k74 : (Option Nat) → Int32 → Int32 → Int32 → Int32 → Int32 → Int32 → MH → (Option (Int32 × MH))) (k82 : (Option Nat) → Int32 → Int32 → Int32 → Int32 → Int32 → Int32 → Int32 → MH → (Option (Int32 × MH))) (k118 : (Option Nat) → Int32 → Int32 → Int32 → Int32 → Int32 → Int32 → Int32 → Int32 → MH → (Option (Int32 × MH))) : Nat → (Option Nat) → (Int32) → (Int32) → (Int32) → (Int32) → (Int32) → (Int32) → (Int32) → (Int32) → (Int32) → (MH) → (Option (Int32 × MH))
  | 0 => fun _ _ _ _ _ _ _ _ _ _ _ => none
  | n + 1 => fun v0 v1 v2 v3 v4 v6 v7 v8 v9 v10 h => 
    if (8 : Int32) ≤ v10 then
      k118 v0 v1 v2 v3 v4 v6 v7 v8 (v9 + (1 : Int32)) h
    else
      Option.bind (gfr h v0 [11] 15) fun x2 =>
      Option.bind (ald h x2 0 ((5 : Int32) + v9)) fun x4 =>
      if (f_M_makes x4 v10) = 0 then
        b_M_seen_181 F k74 k82 k118 (b_M_seen_138 F k74 k82 k118 n) v0 v1 v2 v3 v4 v6 v7 v8 v9 v10 (-1000000 : Int32) h
      else
        Option.bind (gfr h v0 [11] 15) fun x7 =>
        Option.bind (f_M_behind x7 v8 v9 v10 (0 : Int32) h) fun x9 =>
        b_M_seen_181 F k74 k82 k118 (b_M_seen_138 F k74 k82 k118 n) v0 v1 v2 v3 v4 v6 v7 v8 v9 v10 x9.1 x9.2
def b_M_seen_118 (F : Nat) (k74 : (Option Nat) → Int32 → Int32 → Int32 → Int32 → Int32 → Int32 → MH → (Option (Int32 × MH))) (k82 : (Option Nat) → Int32 → Int32 → Int32 → Int32 → Int32 → Int32 → Int32 → MH → (Option (Int32 × MH))) : Nat → (Option Nat) → (Int32) → (Int32) → (Int32) → (Int32) → (Int32) → (Int32) → (Int32) → (Int32) → (MH) → (Option (Int32 × MH))
  | 0 => fun _ _ _ _ _ _ _ _ _ _ => none
  | n + 1 => fun v0 v1 v2 v3 v4 v6 v7 v8 v9 h => 
    Option.bind (gfr h v0 [11] 15) fun x1 =>
    Option.bind (ald h x1 0 (4 : Int32)) fun x3 =>
    if x3 ≤ v9 then
      b_M_seen_309 F k74 k82 v0 v1 v2 v3 v4 v6 v7 v8 h
    else
      if v3 ≤ v7 then
        b_M_seen_309 F k74 k82 v0 v1 v2 v3 v4 v6 v7 v8 h
      else
        b_M_seen_138 F k74 k82 (b_M_seen_118 F k74 k82 n) F v0 v1 v2 v3 v4 v6 v7 v8 v9 (0 : Int32) h
def b_M_seen_114 (F : Nat) (k74 : (Option Nat) → Int32 → Int32 → Int32 → Int32 → Int32 → Int32 → MH → (Option (Int32 × MH))) (k82 : (Option Nat) → Int32 → Int32 → Int32 → Int32 → Int32 → Int32 → Int32 → MH → (Option (Int32 × MH))) : (Option Nat) → (Int32) → (Int32) → (Int32) → (Int32) → (Int32) → (Int32) → (Int32) → (Option Nat) → (Int32) → (Int32) → (MH) → (Option (Int32 × MH)) := fun v0 v1 v2 v3 v4 v6 v7 v8 s0 s1 s2 h => 
  Option.bind (ast h s0 0 s1 s2) fun h1 =>
  b_M_seen_118 F k74 k82 F v0 v1 v2 v3 v4 v6 v7 v8 (0 : Int32) h1
def b_M_seen_82 (F : Nat) (k74 : (Option Nat) → Int32 → Int32 → Int32 → Int32 → Int32 → Int32 → MH → (Option (Int32 × MH))) : Nat → (Option Nat) → (Int32) → (Int32) → (Int32) → (Int32) → (Int32) → (Int32) → (Int32) → (MH) → (Option (Int32 × MH))
  | 0 => fun _ _ _ _ _ _ _ _ _ => none
  | n + 1 => fun v0 v1 v2 v3 v4 v6 v7 v8 h => 
    if (576 : Int32) ≤ v8 then
      k74 v0 v1 v2 v3 v4 v6 (v7 + (-1 : Int32)) h
    else
      Option.bind (gfr h v0 [11] 24) fun x2 =>
      if v7 = v3 then
        b_M_seen_114 F k74 (b_M_seen_82 F k74 n) v0 v1 v2 v3 v4 v6 v7 v8 x2 (((576 : Int32) * v7) + v8) (1 : Int32) h
      else
        b_M_seen_114 F k74 (b_M_seen_82 F k74 n) v0 v1 v2 v3 v4 v6 v7 v8 x2 (((576 : Int32) * v7) + v8) (0 : Int32) h
def b_M_seen_74 (F : Nat) : Nat → (Option Nat) → (Int32) → (Int32) → (Int32) → (Int32) → (Int32) → (Int32) → (MH) → (Option (Int32 × MH))
  | 0 => fun _ _ _ _ _ _ _ _ => none
  | n + 1 => fun v0 v1 v2 v3 v4 v6 v7 h => 
    if v7 < 0 then
      if v4 = 0 then
        Option.bind (gfr h v0 [11] 24) fun x3 =>
        Option.bind (gfr h v0 [11] 15) fun x5 =>
        Option.bind (f_M_node x5 h) fun x7 =>
        Option.bind (ald h x3 0 x7) fun x9 =>
        b_M_seen_344 F v0 x9 h
      else
        b_M_seen_344 F v0 v6 h
    else
      b_M_seen_82 F (b_M_seen_74 F n) F v0 v1 v2 v3 v4 v6 v7 (0 : Int32) h
def f_M_seen (F : Nat) (v0 : Option Nat) (v1 : Int32) (v2 : Int32) (v3 : Int32) (v4 : Int32) (h : MH) : Option (Int32 × MH) :=
  Option.bind (pfv h v0 [11] 0 (.int (0 : Int32))) fun h1 =>
  Option.bind (gfr h1 v0 [11] 15) fun x3 =>
  Option.bind (ald h1 x3 0 (0 : Int32)) fun x5 =>
  if x5 = 0 then
    some ((-1000002 : Int32), h1)
  else
    if (f_M_isRow v1) = 0 then
      some ((-1000001 : Int32), h1)
    else
      if (f_M_in v3 (1 : Int32) (4 : Int32)) = 0 then
        some ((-1000001 : Int32), h1)
      else
        if (f_M_in v4 (0 : Int32) (1 : Int32)) = 0 then
          some ((-1000001 : Int32), h1)
        else
          Option.bind (onc h1 v0 11 (f_M_wrongRow v0 v1 v2 v3 h1)) fun x11 =>
          if x11 ≤ 0 then
            b_M_seen_74 F F v0 v1 v2 v3 v4 (-1000000 : Int32) v3 h1
          else
            Option.bind (onc h1 v0 11 (f_M_finds v0 x11 h1)) fun x14 =>
            some (x14.1, x14.2)
set_option maxHeartbeats 4000000 in
set_option maxRecDepth 200000 in
theorem p_M_seen_344 (F : Nat) {h0 : MH} (s0 : Option Nat) (s1 : Int32) (h : MH) (r : (Int32 × MH)) : b_M_seen_344 F  s0 s1 h = some r → Rt mi_M_seen 7 h0 344 [] [.int s1, va_rf s0] h (some (.int r.1)) r.2 := by
  intro hyp
  unfold b_M_seen_344 at hyp
  obtain ⟨x1, e2, hyp⟩ := Option.bind_eq_some_iff.mp hyp
  refine rt_st (pc1 := 347) (fun _ _ B => go_callV1 (q := q_11) (st := []) [.int s1] (t_M_is s0 s1 h _ (onc_spec e2).2) mm_M_is (by decide) d_M_seen_344 (onc_spec e2).1 rfl rfl w1082 w1084 w30 rfl (Nat.le_of_ble_eq_true rfl) rfl B) ?_
  exact rt_eqW Value.int hyp (rt_int d_M_seen_347 rfl)
set_option maxHeartbeats 4000000 in
set_option maxRecDepth 200000 in
theorem p_M_seen_309 (F : Nat) {h0 : MH} (k74 : (Option Nat) → Int32 → Int32 → Int32 → Int32 → Int32 → Int32 → MH → (Option (Int32 × MH))) (k82 : (Option Nat) → Int32 → Int32 → Int32 → Int32 → Int32 → Int32 → Int32 → MH → (Option (Int32 × MH))) (hk74 : ∀ (v0 : Option Nat) (v1 : Int32) (v2 : Int32) (v3 : Int32) (v4 : Int32) (v6 : Int32) (v7 : Int32) (h : MH) (r : (Int32 × MH)), k74 v0 v1 v2 v3 v4 v6 v7 h = some r → Rt mi_M_seen 7 h0 74 [(0, va_rf v0), (1, .int v1), (2, .int v2), (3, .int v3), (4, .int v4), (6, .int v6), (7, .int v7)] [] h (some (.int r.1)) r.2) (hk82 : ∀ (v0 : Option Nat) (v1 : Int32) (v2 : Int32) (v3 : Int32) (v4 : Int32) (v6 : Int32) (v7 : Int32) (v8 : Int32) (h : MH) (r : (Int32 × MH)), k82 v0 v1 v2 v3 v4 v6 v7 v8 h = some r → Rt mi_M_seen 7 h0 82 [(0, va_rf v0), (1, .int v1), (2, .int v2), (3, .int v3), (4, .int v4), (6, .int v6), (7, .int v7), (8, .int v8)] [] h (some (.int r.1)) r.2) (v0 : Option Nat) (v1 : Int32) (v2 : Int32) (v3 : Int32) (v4 : Int32) (v6 : Int32) (v7 : Int32) (v8 : Int32) (h : MH) (r : (Int32 × MH)) : b_M_seen_309 F k74 k82  v0 v1 v2 v3 v4 v6 v7 v8 h = some r → Rt mi_M_seen 7 h0 309 [(0, va_rf v0), (1, .int v1), (2, .int v2), (3, .int v3), (4, .int v4), (6, .int v6), (7, .int v7), (8, .int v8)] [] h (some (.int r.1)) r.2 := by
  intro hyp
  unfold b_M_seen_309 at hyp
  refine rt_st (pc1 := 82) (fun _ _ B => go_iinc (v := (v8 + (1 : Int32))) (lv1 := [(8, .int (v8 + (1 : Int32))), (0, va_rf v0), (1, .int v1), (2, .int v2), (3, .int v3), (4, .int v4), (6, .int v6), (7, .int v7)]) 7 d_M_seen_309 rfl rfl (by decide) rfl (go_goto 82 d_M_seen_312 rfl B)) ?_
  refine rt_sub [1, 2, 3, 4, 5, 6, 7, 0] (lv1 := [(0, va_rf v0), (1, .int v1), (2, .int v2), (3, .int v3), (4, .int v4), (6, .int v6), (7, .int v7), (8, .int (v8 + (1 : Int32)))]) rfl ?_
  exact hk82 _ _ _ _ _ _ _ _ _ _ hyp
set_option maxHeartbeats 4000000 in
set_option maxRecDepth 200000 in
theorem p_M_seen_276 (F : Nat) {h0 : MH} (k74 : (Option Nat) → Int32 → Int32 → Int32 → Int32 → Int32 → Int32 → MH → (Option (Int32 × MH))) (k82 : (Option Nat) → Int32 → Int32 → Int32 → Int32 → Int32 → Int32 → Int32 → MH → (Option (Int32 × MH))) (k118 : (Option Nat) → Int32 → Int32 → Int32 → Int32 → Int32 → Int32 → Int32 → Int32 → MH → (Option (Int32 × MH))) (k138 : (Option Nat) → Int32 → Int32 → Int32 → Int32 → Int32 → Int32 → Int32 → Int32 → Int32 → MH → (Option (Int32 × MH))) (hk74 : ∀ (v0 : Option Nat) (v1 : Int32) (v2 : Int32) (v3 : Int32) (v4 : Int32) (v6 : Int32) (v7 : Int32) (h : MH) (r : (Int32 × MH)), k74 v0 v1 v2 v3 v4 v6 v7 h = some r → Rt mi_M_seen 7 h0 74 [(0, va_rf v0), (1, .int v1), (2, .int v2), (3, .int v3), (4, .int v4), (6, .int v6), (7, .int v7)] [] h (some (.int r.1)) r.2) (hk82 : ∀ (v0 : Option Nat) (v1 : Int32) (v2 : Int32) (v3 : Int32) (v4 : Int32) (v6 : Int32) (v7 : Int32) (v8 : Int32) (h : MH) (r : (Int32 × MH)), k82 v0 v1 v2 v3 v4 v6 v7 v8 h = some r → Rt mi_M_seen 7 h0 82 [(0, va_rf v0), (1, .int v1), (2, .int v2), (3, .int v3), (4, .int v4), (6, .int v6), (7, .int v7), (8, .int v8)] [] h (some (.int r.1)) r.2) (hk118 : ∀ (v0 : Option Nat) (v1 : Int32) (v2 : Int32) (v3 : Int32) (v4 : Int32) (v6 : Int32) (v7 : Int32) (v8 : Int32) (v9 : Int32) (h : MH) (r : (Int32 × MH)), k118 v0 v1 v2 v3 v4 v6 v7 v8 v9 h = some r → Rt mi_M_seen 7 h0 118 [(0, va_rf v0), (1, .int v1), (2, .int v2), (3, .int v3), (4, .int v4), (6, .int v6), (7, .int v7), (8, .int v8), (9, .int v9)] [] h (some (.int r.1)) r.2) (hk138 : ∀ (v0 : Option Nat) (v1 : Int32) (v2 : Int32) (v3 : Int32) (v4 : Int32) (v6 : Int32) (v7 : Int32) (v8 : Int32) (v9 : Int32) (v10 : Int32) (h : MH) (r : (Int32 × MH)), k138 v0 v1 v2 v3 v4 v6 v7 v8 v9 v10 h = some r → Rt mi_M_seen 7 h0 138 [(0, va_rf v0), (1, .int v1), (2, .int v2), (3, .int v3), (4, .int v4), (6, .int v6), (7, .int v7), (8, .int v8), (9, .int v9), (10, .int v10)] [] h (some (.int r.1)) r.2) (v0 : Option Nat) (v1 : Int32) (v2 : Int32) (v3 : Int32) (v4 : Int32) (v7 : Int32) (v8 : Int32) (v9 : Int32) (v10 : Int32) (v12 : Int32) (s0 : Int32) (h : MH) (r : (Int32 × MH)) : b_M_seen_276 F k74 k82 k118 k138  v0 v1 v2 v3 v4 v7 v8 v9 v10 v12 s0 h = some r → Rt mi_M_seen 7 h0 276 [(0, va_rf v0), (1, .int v1), (2, .int v2), (3, .int v3), (4, .int v4), (7, .int v7), (8, .int v8), (9, .int v9), (10, .int v10), (12, .int v12)] [.int s0] h (some (.int r.1)) r.2 := by
  intro hyp
  unfold b_M_seen_276 at hyp
  obtain ⟨x1, e2, hyp⟩ := Option.bind_eq_some_iff.mp hyp
  obtain ⟨x3, e4, hyp⟩ := Option.bind_eq_some_iff.mp hyp
  obtain ⟨h5, e6, hyp⟩ := Option.bind_eq_some_iff.mp hyp
  refine rt_st (pc1 := 138) (fun _ _ B => go_istore (lv1 := [(6, .int s0), (0, va_rf v0), (1, .int v1), (2, .int v2), (3, .int v3), (4, .int v4), (7, .int v7), (8, .int v8), (9, .int v9), (10, .int v10), (12, .int v12)]) d_M_seen_276 (by decide) rfl (go_aload_n 1 d_M_seen_278 rfl (go_gfr d_M_seen_279 fd_11_24 w1013 e2 (go_sipush (v := (576 : Int32)) d_M_seen_282 (by decide) (go_iload 6 d_M_seen_285 rfl (go_imul d_M_seen_287 (go_iload 7 d_M_seen_288 rfl (go_iadd d_M_seen_290 (go_dup2 d_M_seen_291 rfl (mj_rfc _) (go_iald d_M_seen_292 e4 (go_iload 10 d_M_seen_293 rfl (go_iadd d_M_seen_295 (go_iast d_M_seen_296 e6 (go_iinc (v := (v10 + (1 : Int32))) (lv1 := [(10, .int (v10 + (1 : Int32))), (6, .int s0), (0, va_rf v0), (1, .int v1), (2, .int v2), (3, .int v3), (4, .int v4), (7, .int v7), (8, .int v8), (9, .int v9), (12, .int v12)]) 9 d_M_seen_297 rfl rfl (by decide) rfl (go_goto 138 d_M_seen_300 rfl B))))))))))))))) ?_
  refine rt_sub [2, 3, 4, 5, 6, 1, 7, 8, 9, 0] (lv1 := [(0, va_rf v0), (1, .int v1), (2, .int v2), (3, .int v3), (4, .int v4), (6, .int s0), (7, .int v7), (8, .int v8), (9, .int v9), (10, .int (v10 + (1 : Int32)))]) rfl ?_
  exact hk138 _ _ _ _ _ _ _ _ _ _ _ _ hyp
set_option maxHeartbeats 4000000 in
set_option maxRecDepth 200000 in
theorem p_M_seen_274 (F : Nat) {h0 : MH} (k74 : (Option Nat) → Int32 → Int32 → Int32 → Int32 → Int32 → Int32 → MH → (Option (Int32 × MH))) (k82 : (Option Nat) → Int32 → Int32 → Int32 → Int32 → Int32 → Int32 → Int32 → MH → (Option (Int32 × MH))) (k118 : (Option Nat) → Int32 → Int32 → Int32 → Int32 → Int32 → Int32 → Int32 → Int32 → MH → (Option (Int32 × MH))) (k138 : (Option Nat) → Int32 → Int32 → Int32 → Int32 → Int32 → Int32 → Int32 → Int32 → Int32 → MH → (Option (Int32 × MH))) (hk74 : ∀ (v0 : Option Nat) (v1 : Int32) (v2 : Int32) (v3 : Int32) (v4 : Int32) (v6 : Int32) (v7 : Int32) (h : MH) (r : (Int32 × MH)), k74 v0 v1 v2 v3 v4 v6 v7 h = some r → Rt mi_M_seen 7 h0 74 [(0, va_rf v0), (1, .int v1), (2, .int v2), (3, .int v3), (4, .int v4), (6, .int v6), (7, .int v7)] [] h (some (.int r.1)) r.2) (hk82 : ∀ (v0 : Option Nat) (v1 : Int32) (v2 : Int32) (v3 : Int32) (v4 : Int32) (v6 : Int32) (v7 : Int32) (v8 : Int32) (h : MH) (r : (Int32 × MH)), k82 v0 v1 v2 v3 v4 v6 v7 v8 h = some r → Rt mi_M_seen 7 h0 82 [(0, va_rf v0), (1, .int v1), (2, .int v2), (3, .int v3), (4, .int v4), (6, .int v6), (7, .int v7), (8, .int v8)] [] h (some (.int r.1)) r.2) (hk118 : ∀ (v0 : Option Nat) (v1 : Int32) (v2 : Int32) (v3 : Int32) (v4 : Int32) (v6 : Int32) (v7 : Int32) (v8 : Int32) (v9 : Int32) (h : MH) (r : (Int32 × MH)), k118 v0 v1 v2 v3 v4 v6 v7 v8 v9 h = some r → Rt mi_M_seen 7 h0 118 [(0, va_rf v0), (1, .int v1), (2, .int v2), (3, .int v3), (4, .int v4), (6, .int v6), (7, .int v7), (8, .int v8), (9, .int v9)] [] h (some (.int r.1)) r.2) (hk138 : ∀ (v0 : Option Nat) (v1 : Int32) (v2 : Int32) (v3 : Int32) (v4 : Int32) (v6 : Int32) (v7 : Int32) (v8 : Int32) (v9 : Int32) (v10 : Int32) (h : MH) (r : (Int32 × MH)), k138 v0 v1 v2 v3 v4 v6 v7 v8 v9 v10 h = some r → Rt mi_M_seen 7 h0 138 [(0, va_rf v0), (1, .int v1), (2, .int v2), (3, .int v3), (4, .int v4), (6, .int v6), (7, .int v7), (8, .int v8), (9, .int v9), (10, .int v10)] [] h (some (.int r.1)) r.2) (v0 : Option Nat) (v1 : Int32) (v2 : Int32) (v3 : Int32) (v4 : Int32) (v6 : Int32) (v7 : Int32) (v8 : Int32) (v9 : Int32) (v10 : Int32) (v12 : Int32) (h : MH) (r : (Int32 × MH)) : b_M_seen_274 F k74 k82 k118 k138  v0 v1 v2 v3 v4 v6 v7 v8 v9 v10 v12 h = some r → Rt mi_M_seen 7 h0 274 [(0, va_rf v0), (1, .int v1), (2, .int v2), (3, .int v3), (4, .int v4), (6, .int v6), (7, .int v7), (8, .int v8), (9, .int v9), (10, .int v10), (12, .int v12)] [] h (some (.int r.1)) r.2 := by
  intro hyp
  unfold b_M_seen_274 at hyp
  refine rt_st (pc1 := 276) (fun _ _ B => go_iload 5 d_M_seen_274 rfl B) ?_
  refine rt_sub [0, 1, 2, 3, 4, 6, 7, 8, 9, 10] (lv1 := [(0, va_rf v0), (1, .int v1), (2, .int v2), (3, .int v3), (4, .int v4), (7, .int v7), (8, .int v8), (9, .int v9), (10, .int v10), (12, .int v12)]) rfl ?_
  exact p_M_seen_276 F k74 k82 k118 k138 hk74 hk82 hk118 hk138 _ _ _ _ _ _ _ _ _ _ _ _ r hyp
set_option maxHeartbeats 4000000 in
set_option maxRecDepth 200000 in
theorem p_M_seen_232 (F : Nat) {h0 : MH} (k74 : (Option Nat) → Int32 → Int32 → Int32 → Int32 → Int32 → Int32 → MH → (Option (Int32 × MH))) (k82 : (Option Nat) → Int32 → Int32 → Int32 → Int32 → Int32 → Int32 → Int32 → MH → (Option (Int32 × MH))) (k118 : (Option Nat) → Int32 → Int32 → Int32 → Int32 → Int32 → Int32 → Int32 → Int32 → MH → (Option (Int32 × MH))) (k138 : (Option Nat) → Int32 → Int32 → Int32 → Int32 → Int32 → Int32 → Int32 → Int32 → Int32 → MH → (Option (Int32 × MH))) (hk74 : ∀ (v0 : Option Nat) (v1 : Int32) (v2 : Int32) (v3 : Int32) (v4 : Int32) (v6 : Int32) (v7 : Int32) (h : MH) (r : (Int32 × MH)), k74 v0 v1 v2 v3 v4 v6 v7 h = some r → Rt mi_M_seen 7 h0 74 [(0, va_rf v0), (1, .int v1), (2, .int v2), (3, .int v3), (4, .int v4), (6, .int v6), (7, .int v7)] [] h (some (.int r.1)) r.2) (hk82 : ∀ (v0 : Option Nat) (v1 : Int32) (v2 : Int32) (v3 : Int32) (v4 : Int32) (v6 : Int32) (v7 : Int32) (v8 : Int32) (h : MH) (r : (Int32 × MH)), k82 v0 v1 v2 v3 v4 v6 v7 v8 h = some r → Rt mi_M_seen 7 h0 82 [(0, va_rf v0), (1, .int v1), (2, .int v2), (3, .int v3), (4, .int v4), (6, .int v6), (7, .int v7), (8, .int v8)] [] h (some (.int r.1)) r.2) (hk118 : ∀ (v0 : Option Nat) (v1 : Int32) (v2 : Int32) (v3 : Int32) (v4 : Int32) (v6 : Int32) (v7 : Int32) (v8 : Int32) (v9 : Int32) (h : MH) (r : (Int32 × MH)), k118 v0 v1 v2 v3 v4 v6 v7 v8 v9 h = some r → Rt mi_M_seen 7 h0 118 [(0, va_rf v0), (1, .int v1), (2, .int v2), (3, .int v3), (4, .int v4), (6, .int v6), (7, .int v7), (8, .int v8), (9, .int v9)] [] h (some (.int r.1)) r.2) (hk138 : ∀ (v0 : Option Nat) (v1 : Int32) (v2 : Int32) (v3 : Int32) (v4 : Int32) (v6 : Int32) (v7 : Int32) (v8 : Int32) (v9 : Int32) (v10 : Int32) (h : MH) (r : (Int32 × MH)), k138 v0 v1 v2 v3 v4 v6 v7 v8 v9 v10 h = some r → Rt mi_M_seen 7 h0 138 [(0, va_rf v0), (1, .int v1), (2, .int v2), (3, .int v3), (4, .int v4), (6, .int v6), (7, .int v7), (8, .int v8), (9, .int v9), (10, .int v10)] [] h (some (.int r.1)) r.2) (v0 : Option Nat) (v1 : Int32) (v2 : Int32) (v3 : Int32) (v4 : Int32) (v6 : Int32) (v7 : Int32) (v8 : Int32) (v9 : Int32) (v10 : Int32) (s0 : Int32) (h : MH) (r : (Int32 × MH)) : b_M_seen_232 F k74 k82 k118 k138  v0 v1 v2 v3 v4 v6 v7 v8 v9 v10 s0 h = some r → Rt mi_M_seen 7 h0 232 [(0, va_rf v0), (1, .int v1), (2, .int v2), (3, .int v3), (4, .int v4), (6, .int v6), (7, .int v7), (8, .int v8), (9, .int v9), (10, .int v10)] [.int s0] h (some (.int r.1)) r.2 := by
  intro hyp
  unfold b_M_seen_232 at hyp
  refine rt_st (pc1 := 236) (fun _ _ B => go_istore (lv1 := [(12, .int s0), (0, va_rf v0), (1, .int v1), (2, .int v2), (3, .int v3), (4, .int v4), (6, .int v6), (7, .int v7), (8, .int v8), (9, .int v9), (10, .int v10)]) d_M_seen_232 (by decide) rfl (go_iload 0 d_M_seen_234 rfl B)) ?_
  by_cases c1 : s0 ≤ 0
  · replace hyp := (if_pos c1).symm.trans hyp
    refine rt_st (pc1 := 274) (fun _ _ B => go_if_le_t 274 d_M_seen_236 rfl c1 B) ?_
    refine rt_sub [1, 2, 3, 4, 5, 6, 7, 8, 9, 10, 0] (lv1 := [(0, va_rf v0), (1, .int v1), (2, .int v2), (3, .int v3), (4, .int v4), (6, .int v6), (7, .int v7), (8, .int v8), (9, .int v9), (10, .int v10), (12, .int s0)]) rfl ?_
    exact p_M_seen_274 F k74 k82 k118 k138 hk74 hk82 hk118 hk138 _ _ _ _ _ _ _ _ _ _ _ _ r hyp
  · replace hyp := (if_neg c1).symm.trans hyp
    refine rt_st (pc1 := 241) (fun _ _ B => go_if_le_f d_M_seen_236 rfl c1 (go_iload 7 d_M_seen_239 rfl B)) ?_
    by_cases c2 : v7 = 0
    · replace hyp := (if_pos c2).symm.trans hyp
      obtain ⟨x3, e4, hyp⟩ := Option.bind_eq_some_iff.mp hyp
      obtain ⟨x5, e6, hyp⟩ := Option.bind_eq_some_iff.mp hyp
      refine rt_st (pc1 := 253) (fun _ _ B => go_if_ne_f d_M_seen_241 rfl c2 (go_iload 8 d_M_seen_244 rfl (go_aload_n 1 d_M_seen_246 rfl (go_gfr d_M_seen_247 fd_11_15 w1004 e4 (go_callS1 (st := [.int v8]) [va_rf x3] (t_M_node x3 h _ e6) mm_M_node (by decide) d_M_seen_250 w1255 w1256 rfl (Nat.le_of_ble_eq_true rfl) rfl B))))) ?_
      by_cases c7 : v8 = x5
      · replace hyp := (if_pos c7).symm.trans hyp
        refine rt_st (pc1 := 260) (fun _ _ B => go_icmp_ne_f d_M_seen_253 rfl c7 (go_iload 6 d_M_seen_256 rfl (go_ldc (v := (-1000000 : Int32)) d_M_seen_258 w1239 B))) ?_
        by_cases c8 : v6 = (-1000000 : Int32)
        · replace hyp := (if_pos c8).symm.trans hyp
          refine rt_st (pc1 := 276) (fun _ _ B => go_icmp_ne_f d_M_seen_260 rfl c8 (go_bipush (v := (10 : Int32)) d_M_seen_263 (by decide) (go_iload 9 d_M_seen_265 rfl (go_imul d_M_seen_267 (go_iload 10 d_M_seen_268 rfl (go_iadd d_M_seen_270 (go_goto 276 d_M_seen_271 rfl B))))))) ?_
          refine rt_sub [1, 2, 3, 4, 5, 7, 8, 9, 10, 0] (lv1 := [(0, va_rf v0), (1, .int v1), (2, .int v2), (3, .int v3), (4, .int v4), (7, .int v7), (8, .int v8), (9, .int v9), (10, .int v10), (12, .int s0)]) rfl ?_
          exact p_M_seen_276 F k74 k82 k118 k138 hk74 hk82 hk118 hk138 _ _ _ _ _ _ _ _ _ _ _ _ r hyp
        · replace hyp := (if_neg c8).symm.trans hyp
          refine rt_st (pc1 := 274) (fun _ _ B => go_icmp_ne_t 274 d_M_seen_260 rfl c8 B) ?_
          refine rt_sub [1, 2, 3, 4, 5, 6, 7, 8, 9, 10, 0] (lv1 := [(0, va_rf v0), (1, .int v1), (2, .int v2), (3, .int v3), (4, .int v4), (6, .int v6), (7, .int v7), (8, .int v8), (9, .int v9), (10, .int v10), (12, .int s0)]) rfl ?_
          exact p_M_seen_274 F k74 k82 k118 k138 hk74 hk82 hk118 hk138 _ _ _ _ _ _ _ _ _ _ _ _ r hyp
      · replace hyp := (if_neg c7).symm.trans hyp
        refine rt_st (pc1 := 274) (fun _ _ B => go_icmp_ne_t 274 d_M_seen_253 rfl c7 B) ?_
        refine rt_sub [1, 2, 3, 4, 5, 6, 7, 8, 9, 10, 0] (lv1 := [(0, va_rf v0), (1, .int v1), (2, .int v2), (3, .int v3), (4, .int v4), (6, .int v6), (7, .int v7), (8, .int v8), (9, .int v9), (10, .int v10), (12, .int s0)]) rfl ?_
        exact p_M_seen_274 F k74 k82 k118 k138 hk74 hk82 hk118 hk138 _ _ _ _ _ _ _ _ _ _ _ _ r hyp
    · replace hyp := (if_neg c2).symm.trans hyp
      refine rt_st (pc1 := 274) (fun _ _ B => go_if_ne_t 274 d_M_seen_241 rfl c2 B) ?_
      refine rt_sub [1, 2, 3, 4, 5, 6, 7, 8, 9, 10, 0] (lv1 := [(0, va_rf v0), (1, .int v1), (2, .int v2), (3, .int v3), (4, .int v4), (6, .int v6), (7, .int v7), (8, .int v8), (9, .int v9), (10, .int v10), (12, .int s0)]) rfl ?_
      exact p_M_seen_274 F k74 k82 k118 k138 hk74 hk82 hk118 hk138 _ _ _ _ _ _ _ _ _ _ _ _ r hyp
set_option maxHeartbeats 4000000 in
set_option maxRecDepth 200000 in
theorem p_M_seen_231 (F : Nat) {h0 : MH} (k74 : (Option Nat) → Int32 → Int32 → Int32 → Int32 → Int32 → Int32 → MH → (Option (Int32 × MH))) (k82 : (Option Nat) → Int32 → Int32 → Int32 → Int32 → Int32 → Int32 → Int32 → MH → (Option (Int32 × MH))) (k118 : (Option Nat) → Int32 → Int32 → Int32 → Int32 → Int32 → Int32 → Int32 → Int32 → MH → (Option (Int32 × MH))) (k138 : (Option Nat) → Int32 → Int32 → Int32 → Int32 → Int32 → Int32 → Int32 → Int32 → Int32 → MH → (Option (Int32 × MH))) (hk74 : ∀ (v0 : Option Nat) (v1 : Int32) (v2 : Int32) (v3 : Int32) (v4 : Int32) (v6 : Int32) (v7 : Int32) (h : MH) (r : (Int32 × MH)), k74 v0 v1 v2 v3 v4 v6 v7 h = some r → Rt mi_M_seen 7 h0 74 [(0, va_rf v0), (1, .int v1), (2, .int v2), (3, .int v3), (4, .int v4), (6, .int v6), (7, .int v7)] [] h (some (.int r.1)) r.2) (hk82 : ∀ (v0 : Option Nat) (v1 : Int32) (v2 : Int32) (v3 : Int32) (v4 : Int32) (v6 : Int32) (v7 : Int32) (v8 : Int32) (h : MH) (r : (Int32 × MH)), k82 v0 v1 v2 v3 v4 v6 v7 v8 h = some r → Rt mi_M_seen 7 h0 82 [(0, va_rf v0), (1, .int v1), (2, .int v2), (3, .int v3), (4, .int v4), (6, .int v6), (7, .int v7), (8, .int v8)] [] h (some (.int r.1)) r.2) (hk118 : ∀ (v0 : Option Nat) (v1 : Int32) (v2 : Int32) (v3 : Int32) (v4 : Int32) (v6 : Int32) (v7 : Int32) (v8 : Int32) (v9 : Int32) (h : MH) (r : (Int32 × MH)), k118 v0 v1 v2 v3 v4 v6 v7 v8 v9 h = some r → Rt mi_M_seen 7 h0 118 [(0, va_rf v0), (1, .int v1), (2, .int v2), (3, .int v3), (4, .int v4), (6, .int v6), (7, .int v7), (8, .int v8), (9, .int v9)] [] h (some (.int r.1)) r.2) (hk138 : ∀ (v0 : Option Nat) (v1 : Int32) (v2 : Int32) (v3 : Int32) (v4 : Int32) (v6 : Int32) (v7 : Int32) (v8 : Int32) (v9 : Int32) (v10 : Int32) (h : MH) (r : (Int32 × MH)), k138 v0 v1 v2 v3 v4 v6 v7 v8 v9 v10 h = some r → Rt mi_M_seen 7 h0 138 [(0, va_rf v0), (1, .int v1), (2, .int v2), (3, .int v3), (4, .int v4), (6, .int v6), (7, .int v7), (8, .int v8), (9, .int v9), (10, .int v10)] [] h (some (.int r.1)) r.2) (v0 : Option Nat) (v1 : Int32) (v2 : Int32) (v3 : Int32) (v4 : Int32) (v6 : Int32) (v7 : Int32) (v8 : Int32) (v9 : Int32) (v10 : Int32) (h : MH) (r : (Int32 × MH)) : b_M_seen_231 F k74 k82 k118 k138  v0 v1 v2 v3 v4 v6 v7 v8 v9 v10 h = some r → Rt mi_M_seen 7 h0 231 [(0, va_rf v0), (1, .int v1), (2, .int v2), (3, .int v3), (4, .int v4), (6, .int v6), (7, .int v7), (8, .int v8), (9, .int v9), (10, .int v10)] [] h (some (.int r.1)) r.2 := by
  intro hyp
  unfold b_M_seen_231 at hyp
  refine rt_st (pc1 := 232) (fun _ _ B => go_iconst (v := (0 : Int32)) d_M_seen_231 (by decide) B) ?_
  exact p_M_seen_232 F k74 k82 k118 k138 hk74 hk82 hk118 hk138 _ _ _ _ _ _ _ _ _ _ _ _ r hyp
set_option maxHeartbeats 4000000 in
set_option maxRecDepth 200000 in
theorem p_M_seen_181 (F : Nat) {h0 : MH} (k74 : (Option Nat) → Int32 → Int32 → Int32 → Int32 → Int32 → Int32 → MH → (Option (Int32 × MH))) (k82 : (Option Nat) → Int32 → Int32 → Int32 → Int32 → Int32 → Int32 → Int32 → MH → (Option (Int32 × MH))) (k118 : (Option Nat) → Int32 → Int32 → Int32 → Int32 → Int32 → Int32 → Int32 → Int32 → MH → (Option (Int32 × MH))) (k138 : (Option Nat) → Int32 → Int32 → Int32 → Int32 → Int32 → Int32 → Int32 → Int32 → Int32 → MH → (Option (Int32 × MH))) (hk74 : ∀ (v0 : Option Nat) (v1 : Int32) (v2 : Int32) (v3 : Int32) (v4 : Int32) (v6 : Int32) (v7 : Int32) (h : MH) (r : (Int32 × MH)), k74 v0 v1 v2 v3 v4 v6 v7 h = some r → Rt mi_M_seen 7 h0 74 [(0, va_rf v0), (1, .int v1), (2, .int v2), (3, .int v3), (4, .int v4), (6, .int v6), (7, .int v7)] [] h (some (.int r.1)) r.2) (hk82 : ∀ (v0 : Option Nat) (v1 : Int32) (v2 : Int32) (v3 : Int32) (v4 : Int32) (v6 : Int32) (v7 : Int32) (v8 : Int32) (h : MH) (r : (Int32 × MH)), k82 v0 v1 v2 v3 v4 v6 v7 v8 h = some r → Rt mi_M_seen 7 h0 82 [(0, va_rf v0), (1, .int v1), (2, .int v2), (3, .int v3), (4, .int v4), (6, .int v6), (7, .int v7), (8, .int v8)] [] h (some (.int r.1)) r.2) (hk118 : ∀ (v0 : Option Nat) (v1 : Int32) (v2 : Int32) (v3 : Int32) (v4 : Int32) (v6 : Int32) (v7 : Int32) (v8 : Int32) (v9 : Int32) (h : MH) (r : (Int32 × MH)), k118 v0 v1 v2 v3 v4 v6 v7 v8 v9 h = some r → Rt mi_M_seen 7 h0 118 [(0, va_rf v0), (1, .int v1), (2, .int v2), (3, .int v3), (4, .int v4), (6, .int v6), (7, .int v7), (8, .int v8), (9, .int v9)] [] h (some (.int r.1)) r.2) (hk138 : ∀ (v0 : Option Nat) (v1 : Int32) (v2 : Int32) (v3 : Int32) (v4 : Int32) (v6 : Int32) (v7 : Int32) (v8 : Int32) (v9 : Int32) (v10 : Int32) (h : MH) (r : (Int32 × MH)), k138 v0 v1 v2 v3 v4 v6 v7 v8 v9 v10 h = some r → Rt mi_M_seen 7 h0 138 [(0, va_rf v0), (1, .int v1), (2, .int v2), (3, .int v3), (4, .int v4), (6, .int v6), (7, .int v7), (8, .int v8), (9, .int v9), (10, .int v10)] [] h (some (.int r.1)) r.2) (v0 : Option Nat) (v1 : Int32) (v2 : Int32) (v3 : Int32) (v4 : Int32) (v6 : Int32) (v7 : Int32) (v8 : Int32) (v9 : Int32) (v10 : Int32) (s0 : Int32) (h : MH) (r : (Int32 × MH)) : b_M_seen_181 F k74 k82 k118 k138  v0 v1 v2 v3 v4 v6 v7 v8 v9 v10 s0 h = some r → Rt mi_M_seen 7 h0 181 [(0, va_rf v0), (1, .int v1), (2, .int v2), (3, .int v3), (4, .int v4), (6, .int v6), (7, .int v7), (8, .int v8), (9, .int v9), (10, .int v10)] [.int s0] h (some (.int r.1)) r.2 := by
  intro hyp
  unfold b_M_seen_181 at hyp
  refine rt_st (pc1 := 187) (fun _ _ B => go_istore (lv1 := [(11, .int s0), (0, va_rf v0), (1, .int v1), (2, .int v2), (3, .int v3), (4, .int v4), (6, .int v6), (7, .int v7), (8, .int v8), (9, .int v9), (10, .int v10)]) d_M_seen_181 (by decide) rfl (go_iload 0 d_M_seen_183 rfl (go_ldc (v := (-1000000 : Int32)) d_M_seen_185 w1239 B))) ?_
  by_cases c1 : s0 = (-1000000 : Int32)
  · replace hyp := (if_pos c1).symm.trans hyp
    refine rt_st (pc1 := 231) (fun _ _ B => go_icmp_eq_t 231 d_M_seen_187 rfl c1 B) ?_
    refine rt_sub [1, 2, 3, 4, 5, 6, 7, 8, 9, 10] (lv1 := [(0, va_rf v0), (1, .int v1), (2, .int v2), (3, .int v3), (4, .int v4), (6, .int v6), (7, .int v7), (8, .int v8), (9, .int v9), (10, .int v10)]) rfl ?_
    exact p_M_seen_231 F k74 k82 k118 k138 hk74 hk82 hk118 hk138 _ _ _ _ _ _ _ _ _ _ _ r hyp
  · replace hyp := (if_neg c1).symm.trans hyp
    obtain ⟨x2, e3, hyp⟩ := Option.bind_eq_some_iff.mp hyp
    obtain ⟨x4, e5, hyp⟩ := Option.bind_eq_some_iff.mp hyp
    refine rt_st (pc1 := 209) (fun _ _ B => go_icmp_eq_f d_M_seen_187 rfl c1 (go_iload 0 d_M_seen_190 rfl (go_bipush (v := (24 : Int32)) d_M_seen_192 (by decide) (go_idiv d_M_seen_194 (by decide) (go_aload_n 1 d_M_seen_195 rfl (go_gfr d_M_seen_196 fd_11_12 w1001 e3 (go_bipush (v := (40 : Int32)) d_M_seen_199 (by decide) (go_iload_n 2 d_M_seen_201 rfl (go_imul d_M_seen_202 (go_iload_n 3 d_M_seen_203 rfl (go_iadd d_M_seen_204 (go_iload 7 d_M_seen_205 rfl (go_iadd d_M_seen_207 (go_iald d_M_seen_208 e5 B)))))))))))))) ?_
    by_cases c6 : (s0 / (24 : Int32)) = x4
    · replace hyp := (if_pos c6).symm.trans hyp
      obtain ⟨x7, e8, hyp⟩ := Option.bind_eq_some_iff.mp hyp
      obtain ⟨x9, e10, hyp⟩ := Option.bind_eq_some_iff.mp hyp
      refine rt_st (pc1 := 232) (fun _ _ B => go_icmp_ne_f d_M_seen_209 rfl c6 (go_aload_n 1 d_M_seen_212 rfl (go_gfr d_M_seen_213 fd_11_24 w1013 e8 (go_sipush (v := (576 : Int32)) d_M_seen_216 (by decide) (go_iload 7 d_M_seen_219 rfl (go_iconst (v := (1 : Int32)) d_M_seen_221 (by decide) (go_iadd d_M_seen_222 (go_imul d_M_seen_223 (go_iload 0 d_M_seen_224 rfl (go_iadd d_M_seen_226 (go_iald d_M_seen_227 e10 (go_goto 232 d_M_seen_228 rfl B)))))))))))) ?_
      refine rt_sub [1, 2, 3, 4, 5, 6, 7, 8, 9, 10] (lv1 := [(0, va_rf v0), (1, .int v1), (2, .int v2), (3, .int v3), (4, .int v4), (6, .int v6), (7, .int v7), (8, .int v8), (9, .int v9), (10, .int v10)]) rfl ?_
      exact p_M_seen_232 F k74 k82 k118 k138 hk74 hk82 hk118 hk138 _ _ _ _ _ _ _ _ _ _ _ _ r hyp
    · replace hyp := (if_neg c6).symm.trans hyp
      refine rt_st (pc1 := 231) (fun _ _ B => go_icmp_ne_t 231 d_M_seen_209 rfl c6 B) ?_
      refine rt_sub [1, 2, 3, 4, 5, 6, 7, 8, 9, 10] (lv1 := [(0, va_rf v0), (1, .int v1), (2, .int v2), (3, .int v3), (4, .int v4), (6, .int v6), (7, .int v7), (8, .int v8), (9, .int v9), (10, .int v10)]) rfl ?_
      exact p_M_seen_231 F k74 k82 k118 k138 hk74 hk82 hk118 hk138 _ _ _ _ _ _ _ _ _ _ _ r hyp
set_option maxHeartbeats 4000000 in
set_option maxRecDepth 200000 in
theorem p_M_seen_138 (F : Nat) {h0 : MH} (k74 : (Option Nat) → Int32 → Int32 → Int32 → Int32 → Int32 → Int32 → MH → (Option (Int32 × MH))) (k82 : (Option Nat) → Int32 → Int32 → Int32 → Int32 → Int32 → Int32 → Int32 → MH → (Option (Int32 × MH))) (k118 : (Option Nat) → Int32 → Int32 → Int32 → Int32 → Int32 → Int32 → Int32 → Int32 → MH → (Option (Int32 × MH))) (hk74 : ∀ (v0 : Option Nat) (v1 : Int32) (v2 : Int32) (v3 : Int32) (v4 : Int32) (v6 : Int32) (v7 : Int32) (h : MH) (r : (Int32 × MH)), k74 v0 v1 v2 v3 v4 v6 v7 h = some r → Rt mi_M_seen 7 h0 74 [(0, va_rf v0), (1, .int v1), (2, .int v2), (3, .int v3), (4, .int v4), (6, .int v6), (7, .int v7)] [] h (some (.int r.1)) r.2) (hk82 : ∀ (v0 : Option Nat) (v1 : Int32) (v2 : Int32) (v3 : Int32) (v4 : Int32) (v6 : Int32) (v7 : Int32) (v8 : Int32) (h : MH) (r : (Int32 × MH)), k82 v0 v1 v2 v3 v4 v6 v7 v8 h = some r → Rt mi_M_seen 7 h0 82 [(0, va_rf v0), (1, .int v1), (2, .int v2), (3, .int v3), (4, .int v4), (6, .int v6), (7, .int v7), (8, .int v8)] [] h (some (.int r.1)) r.2) (hk118 : ∀ (v0 : Option Nat) (v1 : Int32) (v2 : Int32) (v3 : Int32) (v4 : Int32) (v6 : Int32) (v7 : Int32) (v8 : Int32) (v9 : Int32) (h : MH) (r : (Int32 × MH)), k118 v0 v1 v2 v3 v4 v6 v7 v8 v9 h = some r → Rt mi_M_seen 7 h0 118 [(0, va_rf v0), (1, .int v1), (2, .int v2), (3, .int v3), (4, .int v4), (6, .int v6), (7, .int v7), (8, .int v8), (9, .int v9)] [] h (some (.int r.1)) r.2) : ∀ (n : Nat) (v0 : Option Nat) (v1 : Int32) (v2 : Int32) (v3 : Int32) (v4 : Int32) (v6 : Int32) (v7 : Int32) (v8 : Int32) (v9 : Int32) (v10 : Int32) (h : MH) (r : (Int32 × MH)), b_M_seen_138 F k74 k82 k118  n v0 v1 v2 v3 v4 v6 v7 v8 v9 v10 h = some r → Rt mi_M_seen 7 h0 138 [(0, va_rf v0), (1, .int v1), (2, .int v2), (3, .int v3), (4, .int v4), (6, .int v6), (7, .int v7), (8, .int v8), (9, .int v9), (10, .int v10)] [] h (some (.int r.1)) r.2 := by
  intro n
  induction n with
  | zero =>
    intro v0 v1 v2 v3 v4 v6 v7 v8 v9 v10 h r hyp
    cases hyp
  | succ n ih =>
    intro v0 v1 v2 v3 v4 v6 v7 v8 v9 v10 h r hyp
    unfold b_M_seen_138 at hyp
    refine rt_st (pc1 := 142) (fun _ _ B => go_iload 9 d_M_seen_138 rfl (go_bipush (v := (8 : Int32)) d_M_seen_140 (by decide) B)) ?_
    by_cases c1 : (8 : Int32) ≤ v10
    · replace hyp := (if_pos c1).symm.trans hyp
      refine rt_st (pc1 := 118) (fun _ _ B => go_icmp_ge_t 303 d_M_seen_142 rfl c1 (go_iinc (v := (v9 + (1 : Int32))) (lv1 := [(9, .int (v9 + (1 : Int32))), (0, va_rf v0), (1, .int v1), (2, .int v2), (3, .int v3), (4, .int v4), (6, .int v6), (7, .int v7), (8, .int v8), (10, .int v10)]) 8 d_M_seen_303 rfl rfl (by decide) rfl (go_goto 118 d_M_seen_306 rfl B))) ?_
      refine rt_sub [1, 2, 3, 4, 5, 6, 7, 8, 0] (lv1 := [(0, va_rf v0), (1, .int v1), (2, .int v2), (3, .int v3), (4, .int v4), (6, .int v6), (7, .int v7), (8, .int v8), (9, .int (v9 + (1 : Int32)))]) rfl ?_
      exact hk118 _ _ _ _ _ _ _ _ _ _ _ hyp
    · replace hyp := (if_neg c1).symm.trans hyp
      obtain ⟨x2, e3, hyp⟩ := Option.bind_eq_some_iff.mp hyp
      obtain ⟨x4, e5, hyp⟩ := Option.bind_eq_some_iff.mp hyp
      refine rt_st (pc1 := 159) (fun _ _ B => go_icmp_ge_f d_M_seen_142 rfl c1 (go_aload_n 0 d_M_seen_145 rfl (go_gfr d_M_seen_146 fd_11_15 w1004 e3 (go_iconst (v := (5 : Int32)) d_M_seen_149 (by decide) (go_iload 8 d_M_seen_150 rfl (go_iadd d_M_seen_152 (go_iald d_M_seen_153 e5 (go_iload 9 d_M_seen_154 rfl (go_callS1 (st := []) [.int x4, .int v10] (t_M_makes x4 v10 h) mm_M_makes (by decide) d_M_seen_156 w1185 w1186 rfl (Nat.le_of_ble_eq_true rfl) rfl B))))))))) ?_
      by_cases c6 : (f_M_makes x4 v10) = 0
      · replace hyp := (if_pos c6).symm.trans hyp
        refine rt_st (pc1 := 181) (fun _ _ B => go_if_eq_t 179 d_M_seen_159 rfl c6 (go_ldc (v := (-1000000 : Int32)) d_M_seen_179 w1239 B)) ?_
        exact p_M_seen_181 F k74 k82 k118 (b_M_seen_138 F k74 k82 k118 n) hk74 hk82 hk118 (fun a0 a1 a2 a3 a4 a5 a6 a7 a8 a9 a10 r hyp => ih a0 a1 a2 a3 a4 a5 a6 a7 a8 a9 a10 r hyp) _ _ _ _ _ _ _ _ _ _ _ _ r hyp
      · replace hyp := (if_neg c6).symm.trans hyp
        obtain ⟨x7, e8, hyp⟩ := Option.bind_eq_some_iff.mp hyp
        obtain ⟨x9, e10, hyp⟩ := Option.bind_eq_some_iff.mp hyp
        refine rt_st (pc1 := 181) (fun _ _ B => go_if_eq_f d_M_seen_159 rfl c6 (go_aload_n 0 d_M_seen_162 rfl (go_gfr d_M_seen_163 fd_11_15 w1004 e8 (go_iload 7 d_M_seen_166 rfl (go_iload 8 d_M_seen_168 rfl (go_iload 9 d_M_seen_170 rfl (go_iconst (v := (0 : Int32)) d_M_seen_172 (by decide) (go_callS1 (st := []) [va_rf x7, .int v8, .int v9, .int v10, .int (0 : Int32)] (t_M_behind x7 v8 v9 v10 (0 : Int32) h _ e10) mm_M_behind (by decide) d_M_seen_173 w1249 w1250 rfl (Nat.le_of_ble_eq_true rfl) rfl (go_goto 181 d_M_seen_176 rfl B))))))))) ?_
        exact p_M_seen_181 F k74 k82 k118 (b_M_seen_138 F k74 k82 k118 n) hk74 hk82 hk118 (fun a0 a1 a2 a3 a4 a5 a6 a7 a8 a9 a10 r hyp => ih a0 a1 a2 a3 a4 a5 a6 a7 a8 a9 a10 r hyp) _ _ _ _ _ _ _ _ _ _ _ _ r hyp
set_option maxHeartbeats 4000000 in
set_option maxRecDepth 200000 in
theorem p_M_seen_118 (F : Nat) {h0 : MH} (k74 : (Option Nat) → Int32 → Int32 → Int32 → Int32 → Int32 → Int32 → MH → (Option (Int32 × MH))) (k82 : (Option Nat) → Int32 → Int32 → Int32 → Int32 → Int32 → Int32 → Int32 → MH → (Option (Int32 × MH))) (hk74 : ∀ (v0 : Option Nat) (v1 : Int32) (v2 : Int32) (v3 : Int32) (v4 : Int32) (v6 : Int32) (v7 : Int32) (h : MH) (r : (Int32 × MH)), k74 v0 v1 v2 v3 v4 v6 v7 h = some r → Rt mi_M_seen 7 h0 74 [(0, va_rf v0), (1, .int v1), (2, .int v2), (3, .int v3), (4, .int v4), (6, .int v6), (7, .int v7)] [] h (some (.int r.1)) r.2) (hk82 : ∀ (v0 : Option Nat) (v1 : Int32) (v2 : Int32) (v3 : Int32) (v4 : Int32) (v6 : Int32) (v7 : Int32) (v8 : Int32) (h : MH) (r : (Int32 × MH)), k82 v0 v1 v2 v3 v4 v6 v7 v8 h = some r → Rt mi_M_seen 7 h0 82 [(0, va_rf v0), (1, .int v1), (2, .int v2), (3, .int v3), (4, .int v4), (6, .int v6), (7, .int v7), (8, .int v8)] [] h (some (.int r.1)) r.2) : ∀ (n : Nat) (v0 : Option Nat) (v1 : Int32) (v2 : Int32) (v3 : Int32) (v4 : Int32) (v6 : Int32) (v7 : Int32) (v8 : Int32) (v9 : Int32) (h : MH) (r : (Int32 × MH)), b_M_seen_118 F k74 k82  n v0 v1 v2 v3 v4 v6 v7 v8 v9 h = some r → Rt mi_M_seen 7 h0 118 [(0, va_rf v0), (1, .int v1), (2, .int v2), (3, .int v3), (4, .int v4), (6, .int v6), (7, .int v7), (8, .int v8), (9, .int v9)] [] h (some (.int r.1)) r.2 := by
  intro n
  induction n with
  | zero =>
    intro v0 v1 v2 v3 v4 v6 v7 v8 v9 h r hyp
    cases hyp
  | succ n ih =>
    intro v0 v1 v2 v3 v4 v6 v7 v8 v9 h r hyp
    unfold b_M_seen_118 at hyp
    obtain ⟨x1, e2, hyp⟩ := Option.bind_eq_some_iff.mp hyp
    obtain ⟨x3, e4, hyp⟩ := Option.bind_eq_some_iff.mp hyp
    refine rt_st (pc1 := 126) (fun _ _ B => go_iload 8 d_M_seen_118 rfl (go_aload_n 0 d_M_seen_120 rfl (go_gfr d_M_seen_121 fd_11_15 w1004 e2 (go_iconst (v := (4 : Int32)) d_M_seen_124 (by decide) (go_iald d_M_seen_125 e4 B))))) ?_
    by_cases c5 : x3 ≤ v9
    · replace hyp := (if_pos c5).symm.trans hyp
      refine rt_st (pc1 := 309) (fun _ _ B => go_icmp_ge_t 309 d_M_seen_126 rfl c5 B) ?_
      refine rt_sub [0, 1, 2, 3, 4, 5, 6, 7] (lv1 := [(0, va_rf v0), (1, .int v1), (2, .int v2), (3, .int v3), (4, .int v4), (6, .int v6), (7, .int v7), (8, .int v8)]) rfl ?_
      exact p_M_seen_309 F k74 k82 hk74 hk82 _ _ _ _ _ _ _ _ _ r hyp
    · replace hyp := (if_neg c5).symm.trans hyp
      refine rt_st (pc1 := 132) (fun _ _ B => go_icmp_ge_f d_M_seen_126 rfl c5 (go_iload 6 d_M_seen_129 rfl (go_iload_n 3 d_M_seen_131 rfl B))) ?_
      by_cases c6 : v3 ≤ v7
      · replace hyp := (if_pos c6).symm.trans hyp
        refine rt_st (pc1 := 309) (fun _ _ B => go_icmp_ge_t 309 d_M_seen_132 rfl c6 B) ?_
        refine rt_sub [0, 1, 2, 3, 4, 5, 6, 7] (lv1 := [(0, va_rf v0), (1, .int v1), (2, .int v2), (3, .int v3), (4, .int v4), (6, .int v6), (7, .int v7), (8, .int v8)]) rfl ?_
        exact p_M_seen_309 F k74 k82 hk74 hk82 _ _ _ _ _ _ _ _ _ r hyp
      · replace hyp := (if_neg c6).symm.trans hyp
        refine rt_st (pc1 := 138) (fun _ _ B => go_icmp_ge_f d_M_seen_132 rfl c6 (go_iconst (v := (0 : Int32)) d_M_seen_135 (by decide) (go_istore (lv1 := [(10, .int (0 : Int32)), (0, va_rf v0), (1, .int v1), (2, .int v2), (3, .int v3), (4, .int v4), (6, .int v6), (7, .int v7), (8, .int v8), (9, .int v9)]) d_M_seen_136 (by decide) rfl B))) ?_
        refine rt_sub [1, 2, 3, 4, 5, 6, 7, 8, 9, 0] (lv1 := [(0, va_rf v0), (1, .int v1), (2, .int v2), (3, .int v3), (4, .int v4), (6, .int v6), (7, .int v7), (8, .int v8), (9, .int v9), (10, .int (0 : Int32))]) rfl ?_
        exact p_M_seen_138 F k74 k82 (b_M_seen_118 F k74 k82 n) hk74 hk82 (fun a0 a1 a2 a3 a4 a5 a6 a7 a8 a9 r hyp => ih a0 a1 a2 a3 a4 a5 a6 a7 a8 a9 r hyp) F _ _ _ _ _ _ _ _ _ _ _ r hyp
set_option maxHeartbeats 4000000 in
set_option maxRecDepth 200000 in
theorem p_M_seen_114 (F : Nat) {h0 : MH} (k74 : (Option Nat) → Int32 → Int32 → Int32 → Int32 → Int32 → Int32 → MH → (Option (Int32 × MH))) (k82 : (Option Nat) → Int32 → Int32 → Int32 → Int32 → Int32 → Int32 → Int32 → MH → (Option (Int32 × MH))) (hk74 : ∀ (v0 : Option Nat) (v1 : Int32) (v2 : Int32) (v3 : Int32) (v4 : Int32) (v6 : Int32) (v7 : Int32) (h : MH) (r : (Int32 × MH)), k74 v0 v1 v2 v3 v4 v6 v7 h = some r → Rt mi_M_seen 7 h0 74 [(0, va_rf v0), (1, .int v1), (2, .int v2), (3, .int v3), (4, .int v4), (6, .int v6), (7, .int v7)] [] h (some (.int r.1)) r.2) (hk82 : ∀ (v0 : Option Nat) (v1 : Int32) (v2 : Int32) (v3 : Int32) (v4 : Int32) (v6 : Int32) (v7 : Int32) (v8 : Int32) (h : MH) (r : (Int32 × MH)), k82 v0 v1 v2 v3 v4 v6 v7 v8 h = some r → Rt mi_M_seen 7 h0 82 [(0, va_rf v0), (1, .int v1), (2, .int v2), (3, .int v3), (4, .int v4), (6, .int v6), (7, .int v7), (8, .int v8)] [] h (some (.int r.1)) r.2) (v0 : Option Nat) (v1 : Int32) (v2 : Int32) (v3 : Int32) (v4 : Int32) (v6 : Int32) (v7 : Int32) (v8 : Int32) (s0 : Option Nat) (s1 : Int32) (s2 : Int32) (h : MH) (r : (Int32 × MH)) : b_M_seen_114 F k74 k82  v0 v1 v2 v3 v4 v6 v7 v8 s0 s1 s2 h = some r → Rt mi_M_seen 7 h0 114 [(0, va_rf v0), (1, .int v1), (2, .int v2), (3, .int v3), (4, .int v4), (6, .int v6), (7, .int v7), (8, .int v8)] [.int s2, .int s1, va_rf s0] h (some (.int r.1)) r.2 := by
  intro hyp
  unfold b_M_seen_114 at hyp
  obtain ⟨h1, e2, hyp⟩ := Option.bind_eq_some_iff.mp hyp
  refine rt_st (pc1 := 118) (fun _ _ B => go_iast d_M_seen_114 e2 (go_iconst (v := (0 : Int32)) d_M_seen_115 (by decide) (go_istore (lv1 := [(9, .int (0 : Int32)), (0, va_rf v0), (1, .int v1), (2, .int v2), (3, .int v3), (4, .int v4), (6, .int v6), (7, .int v7), (8, .int v8)]) d_M_seen_116 (by decide) rfl B))) ?_
  refine rt_sub [1, 2, 3, 4, 5, 6, 7, 8, 0] (lv1 := [(0, va_rf v0), (1, .int v1), (2, .int v2), (3, .int v3), (4, .int v4), (6, .int v6), (7, .int v7), (8, .int v8), (9, .int (0 : Int32))]) rfl ?_
  exact p_M_seen_118 F k74 k82 hk74 hk82 F _ _ _ _ _ _ _ _ _ _ r hyp
set_option maxHeartbeats 4000000 in
set_option maxRecDepth 200000 in
theorem p_M_seen_82 (F : Nat) {h0 : MH} (k74 : (Option Nat) → Int32 → Int32 → Int32 → Int32 → Int32 → Int32 → MH → (Option (Int32 × MH))) (hk74 : ∀ (v0 : Option Nat) (v1 : Int32) (v2 : Int32) (v3 : Int32) (v4 : Int32) (v6 : Int32) (v7 : Int32) (h : MH) (r : (Int32 × MH)), k74 v0 v1 v2 v3 v4 v6 v7 h = some r → Rt mi_M_seen 7 h0 74 [(0, va_rf v0), (1, .int v1), (2, .int v2), (3, .int v3), (4, .int v4), (6, .int v6), (7, .int v7)] [] h (some (.int r.1)) r.2) : ∀ (n : Nat) (v0 : Option Nat) (v1 : Int32) (v2 : Int32) (v3 : Int32) (v4 : Int32) (v6 : Int32) (v7 : Int32) (v8 : Int32) (h : MH) (r : (Int32 × MH)), b_M_seen_82 F k74  n v0 v1 v2 v3 v4 v6 v7 v8 h = some r → Rt mi_M_seen 7 h0 82 [(0, va_rf v0), (1, .int v1), (2, .int v2), (3, .int v3), (4, .int v4), (6, .int v6), (7, .int v7), (8, .int v8)] [] h (some (.int r.1)) r.2 := by
  intro n
  induction n with
  | zero =>
    intro v0 v1 v2 v3 v4 v6 v7 v8 h r hyp
    cases hyp
  | succ n ih =>
    intro v0 v1 v2 v3 v4 v6 v7 v8 h r hyp
    unfold b_M_seen_82 at hyp
    refine rt_st (pc1 := 87) (fun _ _ B => go_iload 7 d_M_seen_82 rfl (go_sipush (v := (576 : Int32)) d_M_seen_84 (by decide) B)) ?_
    by_cases c1 : (576 : Int32) ≤ v8
    · replace hyp := (if_pos c1).symm.trans hyp
      refine rt_st (pc1 := 74) (fun _ _ B => go_icmp_ge_t 315 d_M_seen_87 rfl c1 (go_iinc (v := (v7 + (-1 : Int32))) (lv1 := [(7, .int (v7 + (-1 : Int32))), (0, va_rf v0), (1, .int v1), (2, .int v2), (3, .int v3), (4, .int v4), (6, .int v6), (8, .int v8)]) 6 d_M_seen_315 rfl rfl (by decide) rfl (go_goto 74 d_M_seen_318 rfl B))) ?_
      refine rt_sub [1, 2, 3, 4, 5, 6, 0] (lv1 := [(0, va_rf v0), (1, .int v1), (2, .int v2), (3, .int v3), (4, .int v4), (6, .int v6), (7, .int (v7 + (-1 : Int32)))]) rfl ?_
      exact hk74 _ _ _ _ _ _ _ _ _ hyp
    · replace hyp := (if_neg c1).symm.trans hyp
      obtain ⟨x2, e3, hyp⟩ := Option.bind_eq_some_iff.mp hyp
      refine rt_st (pc1 := 106) (fun _ _ B => go_icmp_ge_f d_M_seen_87 rfl c1 (go_aload_n 0 d_M_seen_90 rfl (go_gfr d_M_seen_91 fd_11_24 w1013 e3 (go_sipush (v := (576 : Int32)) d_M_seen_94 (by decide) (go_iload 6 d_M_seen_97 rfl (go_imul d_M_seen_99 (go_iload 7 d_M_seen_100 rfl (go_iadd d_M_seen_102 (go_iload 6 d_M_seen_103 rfl (go_iload_n 3 d_M_seen_105 rfl B)))))))))) ?_
      by_cases c4 : v7 = v3
      · replace hyp := (if_pos c4).symm.trans hyp
        refine rt_st (pc1 := 114) (fun _ _ B => go_icmp_ne_f d_M_seen_106 rfl c4 (go_iconst (v := (1 : Int32)) d_M_seen_109 (by decide) (go_goto 114 d_M_seen_110 rfl B))) ?_
        exact p_M_seen_114 F k74 (b_M_seen_82 F k74 n) hk74 (fun a0 a1 a2 a3 a4 a5 a6 a7 a8 r hyp => ih a0 a1 a2 a3 a4 a5 a6 a7 a8 r hyp) _ _ _ _ _ _ _ _ _ _ _ _ r hyp
      · replace hyp := (if_neg c4).symm.trans hyp
        refine rt_st (pc1 := 114) (fun _ _ B => go_icmp_ne_t 113 d_M_seen_106 rfl c4 (go_iconst (v := (0 : Int32)) d_M_seen_113 (by decide) B)) ?_
        exact p_M_seen_114 F k74 (b_M_seen_82 F k74 n) hk74 (fun a0 a1 a2 a3 a4 a5 a6 a7 a8 r hyp => ih a0 a1 a2 a3 a4 a5 a6 a7 a8 r hyp) _ _ _ _ _ _ _ _ _ _ _ _ r hyp
set_option maxHeartbeats 4000000 in
set_option maxRecDepth 200000 in
theorem p_M_seen_74 (F : Nat) {h0 : MH} : ∀ (n : Nat) (v0 : Option Nat) (v1 : Int32) (v2 : Int32) (v3 : Int32) (v4 : Int32) (v6 : Int32) (v7 : Int32) (h : MH) (r : (Int32 × MH)), b_M_seen_74 F  n v0 v1 v2 v3 v4 v6 v7 h = some r → Rt mi_M_seen 7 h0 74 [(0, va_rf v0), (1, .int v1), (2, .int v2), (3, .int v3), (4, .int v4), (6, .int v6), (7, .int v7)] [] h (some (.int r.1)) r.2 := by
  intro n
  induction n with
  | zero =>
    intro v0 v1 v2 v3 v4 v6 v7 h r hyp
    cases hyp
  | succ n ih =>
    intro v0 v1 v2 v3 v4 v6 v7 h r hyp
    unfold b_M_seen_74 at hyp
    refine rt_st (pc1 := 76) (fun _ _ B => go_iload 6 d_M_seen_74 rfl B) ?_
    by_cases c1 : v7 < 0
    · replace hyp := (if_pos c1).symm.trans hyp
      refine rt_st (pc1 := 324) (fun _ _ B => go_if_lt_t 321 d_M_seen_76 rfl c1 (go_aload_n 0 d_M_seen_321 rfl (go_iload 4 d_M_seen_322 rfl B))) ?_
      by_cases c2 : v4 = 0
      · replace hyp := (if_pos c2).symm.trans hyp
        obtain ⟨x3, e4, hyp⟩ := Option.bind_eq_some_iff.mp hyp
        obtain ⟨x5, e6, hyp⟩ := Option.bind_eq_some_iff.mp hyp
        obtain ⟨x7, e8, hyp⟩ := Option.bind_eq_some_iff.mp hyp
        obtain ⟨x9, e10, hyp⟩ := Option.bind_eq_some_iff.mp hyp
        refine rt_st (pc1 := 344) (fun _ _ B => go_if_ne_f d_M_seen_324 rfl c2 (go_aload_n 0 d_M_seen_327 rfl (go_gfr d_M_seen_328 fd_11_24 w1013 e4 (go_aload_n 0 d_M_seen_331 rfl (go_gfr d_M_seen_332 fd_11_15 w1004 e6 (go_callS1 (st := [va_rf x3, va_rf v0]) [va_rf x5] (t_M_node x5 h _ e8) mm_M_node (by decide) d_M_seen_335 w1255 w1256 rfl (Nat.le_of_ble_eq_true rfl) rfl (go_iald d_M_seen_338 e10 (go_goto 344 d_M_seen_339 rfl B)))))))) ?_
        refine rt_sub [] (lv1 := []) rfl ?_
        exact p_M_seen_344 F _ _ _ r hyp
      · replace hyp := (if_neg c2).symm.trans hyp
        refine rt_st (pc1 := 344) (fun _ _ B => go_if_ne_t 342 d_M_seen_324 rfl c2 (go_iload 5 d_M_seen_342 rfl B)) ?_
        refine rt_sub [] (lv1 := []) rfl ?_
        exact p_M_seen_344 F _ _ _ r hyp
    · replace hyp := (if_neg c1).symm.trans hyp
      refine rt_st (pc1 := 82) (fun _ _ B => go_if_lt_f d_M_seen_76 rfl c1 (go_iconst (v := (0 : Int32)) d_M_seen_79 (by decide) (go_istore (lv1 := [(8, .int (0 : Int32)), (0, va_rf v0), (1, .int v1), (2, .int v2), (3, .int v3), (4, .int v4), (6, .int v6), (7, .int v7)]) d_M_seen_80 (by decide) rfl B))) ?_
      refine rt_sub [1, 2, 3, 4, 5, 6, 7, 0] (lv1 := [(0, va_rf v0), (1, .int v1), (2, .int v2), (3, .int v3), (4, .int v4), (6, .int v6), (7, .int v7), (8, .int (0 : Int32))]) rfl ?_
      exact p_M_seen_82 F (b_M_seen_74 F n) (fun a0 a1 a2 a3 a4 a5 a6 a7 r hyp => ih a0 a1 a2 a3 a4 a5 a6 a7 r hyp) F _ _ _ _ _ _ _ _ _ r hyp
set_option maxHeartbeats 4000000 in
set_option maxRecDepth 200000 in
theorem t_M_seen (F : Nat) (v0 : Option Nat) (v1 : Int32) (v2 : Int32) (v3 : Int32) (v4 : Int32) (h : MH) (r : (Int32 × MH)) (hyp : f_M_seen F v0 v1 v2 v3 v4 h = some r) : Mt mi_M_seen 7 [va_rf v0, .int v1, .int v2, .int v3, .int v4] h (some (.int r.1)) r.2 := by
  refine Mt.rt (lv := [(0, va_rf v0), (1, .int v1), (2, .int v2), (3, .int v3), (4, .int v4)]) (by decide +kernel) (by simp [lv_args, mj_rfc, mj_cti, mj_ctl]) (by simp [mj_rfc, mj_cti, mj_ctl]) ?_
  unfold f_M_seen at hyp
  obtain ⟨h1, e2, hyp⟩ := Option.bind_eq_some_iff.mp hyp
  obtain ⟨x3, e4, hyp⟩ := Option.bind_eq_some_iff.mp hyp
  obtain ⟨x5, e6, hyp⟩ := Option.bind_eq_some_iff.mp hyp
  refine rt_st (pc1 := 11) (fun _ _ B => go_aload_n 0 d_M_seen_0 rfl (go_iconst (v := (0 : Int32)) d_M_seen_1 (by decide) (go_pfi d_M_seen_2 fd_11_0 w989 (fun q => by cases q) e2 (go_aload_n 0 d_M_seen_5 rfl (go_gfr d_M_seen_6 fd_11_15 w1004 e4 (go_iconst (v := (0 : Int32)) d_M_seen_9 (by decide) (go_iald d_M_seen_10 e6 B))))))) ?_
  by_cases c7 : x5 = 0
  · replace hyp := (if_pos c7).symm.trans hyp
    refine rt_st (pc1 := 16) (fun _ _ B => go_if_ne_f d_M_seen_11 rfl c7 (go_ldc (v := (-1000002 : Int32)) d_M_seen_14 w1164 B)) ?_
    exact rt_eqW Value.int hyp (rt_int d_M_seen_16 rfl)
  · replace hyp := (if_neg c7).symm.trans hyp
    refine rt_st (pc1 := 21) (fun _ _ B => go_if_ne_t 17 d_M_seen_11 rfl c7 (go_iload_n 1 d_M_seen_17 rfl (go_callS1 (st := []) [.int v1] (t_M_isRow v1 h1) mm_M_isRow (by decide) d_M_seen_18 w1070 w1071 rfl (Nat.le_of_ble_eq_true rfl) rfl B))) ?_
    by_cases c8 : (f_M_isRow v1) = 0
    · replace hyp := (if_pos c8).symm.trans hyp
      refine rt_st (pc1 := 45) (fun _ _ B => go_if_eq_t 43 d_M_seen_21 rfl c8 (go_ldc (v := (-1000001 : Int32)) d_M_seen_43 w1076 B)) ?_
      exact rt_eqW Value.int hyp (rt_int d_M_seen_45 rfl)
    · replace hyp := (if_neg c8).symm.trans hyp
      refine rt_st (pc1 := 30) (fun _ _ B => go_if_eq_f d_M_seen_21 rfl c8 (go_iload_n 3 d_M_seen_24 rfl (go_iconst (v := (1 : Int32)) d_M_seen_25 (by decide) (go_iconst (v := (4 : Int32)) d_M_seen_26 (by decide) (go_callS1 (st := []) [.int v3, .int (1 : Int32), .int (4 : Int32)] (t_M_in v3 (1 : Int32) (4 : Int32) h1) mm_M_in (by decide) d_M_seen_27 w1073 w1074 rfl (Nat.le_of_ble_eq_true rfl) rfl B))))) ?_
      by_cases c9 : (f_M_in v3 (1 : Int32) (4 : Int32)) = 0
      · replace hyp := (if_pos c9).symm.trans hyp
        refine rt_st (pc1 := 45) (fun _ _ B => go_if_eq_t 43 d_M_seen_30 rfl c9 (go_ldc (v := (-1000001 : Int32)) d_M_seen_43 w1076 B)) ?_
        exact rt_eqW Value.int hyp (rt_int d_M_seen_45 rfl)
      · replace hyp := (if_neg c9).symm.trans hyp
        refine rt_st (pc1 := 40) (fun _ _ B => go_if_eq_f d_M_seen_30 rfl c9 (go_iload 4 d_M_seen_33 rfl (go_iconst (v := (0 : Int32)) d_M_seen_35 (by decide) (go_iconst (v := (1 : Int32)) d_M_seen_36 (by decide) (go_callS1 (st := []) [.int v4, .int (0 : Int32), .int (1 : Int32)] (t_M_in v4 (0 : Int32) (1 : Int32) h1) mm_M_in (by decide) d_M_seen_37 w1073 w1074 rfl (Nat.le_of_ble_eq_true rfl) rfl B))))) ?_
        by_cases c10 : (f_M_in v4 (0 : Int32) (1 : Int32)) = 0
        · replace hyp := (if_pos c10).symm.trans hyp
          refine rt_st (pc1 := 45) (fun _ _ B => go_if_ne_f d_M_seen_40 rfl c10 (go_ldc (v := (-1000001 : Int32)) d_M_seen_43 w1076 B)) ?_
          exact rt_eqW Value.int hyp (rt_int d_M_seen_45 rfl)
        · replace hyp := (if_neg c10).symm.trans hyp
          obtain ⟨x11, e12, hyp⟩ := Option.bind_eq_some_iff.mp hyp
          refine rt_st (pc1 := 57) (fun _ _ B => go_if_ne_t 46 d_M_seen_40 rfl c10 (go_aload_n 0 d_M_seen_46 rfl (go_iload_n 1 d_M_seen_47 rfl (go_iload_n 2 d_M_seen_48 rfl (go_iload_n 3 d_M_seen_49 rfl (go_callV1 (q := q_11) (st := []) [.int v1, .int v2, .int v3] (t_M_wrongRow v0 v1 v2 v3 h1 _ (onc_spec e12).2) mm_M_wrongRow (by decide) d_M_seen_50 (onc_spec e12).1 rfl rfl w1294 w1296 w47 rfl (Nat.le_of_ble_eq_true rfl) rfl (go_istore (lv1 := [(5, .int x11), (0, va_rf v0), (1, .int v1), (2, .int v2), (3, .int v3), (4, .int v4)]) d_M_seen_53 (by decide) rfl (go_iload 0 d_M_seen_55 rfl B)))))))) ?_
          by_cases c13 : x11 ≤ 0
          · replace hyp := (if_pos c13).symm.trans hyp
            refine rt_st (pc1 := 74) (fun _ _ B => go_if_le_t 67 d_M_seen_57 rfl c13 (go_ldc (v := (-1000000 : Int32)) d_M_seen_67 w1239 (go_istore (lv1 := [(6, .int (-1000000 : Int32)), (5, .int x11), (0, va_rf v0), (1, .int v1), (2, .int v2), (3, .int v3), (4, .int v4)]) d_M_seen_69 (by decide) rfl (go_iload_n 5 d_M_seen_71 rfl (go_istore (lv1 := [(7, .int v3), (6, .int (-1000000 : Int32)), (5, .int x11), (0, va_rf v0), (1, .int v1), (2, .int v2), (3, .int v3), (4, .int v4)]) d_M_seen_72 (by decide) rfl B))))) ?_
            refine rt_sub [3, 4, 5, 6, 7, 1, 0] (lv1 := [(0, va_rf v0), (1, .int v1), (2, .int v2), (3, .int v3), (4, .int v4), (6, .int (-1000000 : Int32)), (7, .int v3)]) rfl ?_
            exact p_M_seen_74 F F _ _ _ _ _ _ _ _ r hyp
          · replace hyp := (if_neg c13).symm.trans hyp
            obtain ⟨x14, e15, hyp⟩ := Option.bind_eq_some_iff.mp hyp
            refine rt_st (pc1 := 66) (fun _ _ B => go_if_le_f d_M_seen_57 rfl c13 (go_aload_n 1 d_M_seen_60 rfl (go_iload 0 d_M_seen_61 rfl (go_callV1 (q := q_11) (st := []) [.int x11] (t_M_finds v0 x11 h1 _ (onc_spec e15).2) mm_M_finds (by decide) d_M_seen_63 (onc_spec e15).1 rfl rfl w1077 w1079 w29 rfl (Nat.le_of_ble_eq_true rfl) rfl B)))) ?_
            exact rt_eqW Value.int hyp (rt_int d_M_seen_66 rfl)
/-! WideTurnModel.power(JI)J -/
def b_M_power_5 (F : Nat) : Nat → (Int64) → (Int32) → (Int64) → (Int32) → (Option (Int64))
  | 0 => fun _ _ _ _ => none
  | n + 1 => fun v0 v2 v3 v5 => 
    if v2 ≤ v5 then
      some v3
    else
      (b_M_power_5 F n) v0 v2 (v3 * v0) (v5 + (1 : Int32))
def f_M_power (F : Nat) (v0 : Int64) (v2 : Int32) : Option (Int64) :=
  b_M_power_5 F F v0 v2 (1 : Int64) (0 : Int32)
set_option maxHeartbeats 4000000 in
set_option maxRecDepth 200000 in
theorem p_M_power_5 (F : Nat) (h : MH) {h0 : MH} : ∀ (n : Nat) (v0 : Int64) (v2 : Int32) (v3 : Int64) (v5 : Int32) (r : (Int64)), b_M_power_5 F  n v0 v2 v3 v5 = some r → Rt mi_M_power 1 h0 5 [(0, .long v0), (2, .int v2), (3, .long v3), (5, .int v5)] [] h (some (.long r)) h := by
  intro n
  induction n with
  | zero =>
    intro v0 v2 v3 v5 r hyp
    cases hyp
  | succ n ih =>
    intro v0 v2 v3 v5 r hyp
    unfold b_M_power_5 at hyp
    refine rt_st (pc1 := 8) (fun _ _ B => go_iload 3 d_M_power_5 rfl (go_iload_n 1 d_M_power_7 rfl B)) ?_
    by_cases c1 : v2 ≤ v5
    · replace hyp := (if_pos c1).symm.trans hyp
      refine rt_st (pc1 := 22) (fun _ _ B => go_icmp_ge_t 21 d_M_power_8 rfl c1 (go_lload_n 2 d_M_power_21 rfl B)) ?_
      exact rt_eqR Value.long hyp (rt_long d_M_power_22 rfl)
    · replace hyp := (if_neg c1).symm.trans hyp
      refine rt_st (pc1 := 5) (fun _ _ B => go_icmp_ge_f d_M_power_8 rfl c1 (go_lload_n 2 d_M_power_11 rfl (go_lload_n 0 d_M_power_12 rfl (go_lmul d_M_power_13 (go_lstore_n (lv1 := [(3, .long (v3 * v0)), (0, .long v0), (2, .int v2), (5, .int v5)]) d_M_power_14 (by decide) rfl (go_iinc (v := (v5 + (1 : Int32))) (lv1 := [(5, .int (v5 + (1 : Int32))), (3, .long (v3 * v0)), (0, .long v0), (2, .int v2)]) 3 d_M_power_15 rfl rfl (by decide) rfl (go_goto 5 d_M_power_18 rfl B))))))) ?_
      refine rt_sub [2, 3, 1, 0] (lv1 := [(0, .long v0), (2, .int v2), (3, .long (v3 * v0)), (5, .int (v5 + (1 : Int32)))]) rfl ?_
      exact ih _ _ _ _ _ hyp
set_option maxHeartbeats 4000000 in
set_option maxRecDepth 200000 in
theorem t_M_power (F : Nat) (v0 : Int64) (v2 : Int32) (h : MH) (r : (Int64)) (hyp : f_M_power F v0 v2 = some r) : Mt mi_M_power 1 [.long v0, .int v2] h (some (.long r)) h := by
  refine Mt.rt (lv := [(0, .long v0), (2, .int v2)]) (by decide +kernel) (by simp [lv_args, mj_rfc, mj_cti, mj_ctl]) (by simp [mj_rfc, mj_cti, mj_ctl]) ?_
  unfold f_M_power at hyp
  refine rt_st (pc1 := 5) (fun _ _ B => go_lconst (v := (1 : Int64)) d_M_power_0 (by decide) (go_lstore_n (lv1 := [(3, .long (1 : Int64)), (0, .long v0), (2, .int v2)]) d_M_power_1 (by decide) rfl (go_iconst (v := (0 : Int32)) d_M_power_2 (by decide) (go_istore (lv1 := [(5, .int (0 : Int32)), (3, .long (1 : Int64)), (0, .long v0), (2, .int v2)]) d_M_power_3 (by decide) rfl B)))) ?_
  refine rt_sub [2, 3, 1, 0] (lv1 := [(0, .long v0), (2, .int v2), (3, .long (1 : Int64)), (5, .int (0 : Int32))]) rfl ?_
  exact p_M_power_5 F h F _ _ _ _ r hyp
/-! WideTurnModel.choose(II)J -/
def b_M_choose_5 (F : Nat) : Nat → (Int32) → (Int32) → (Int64) → (Int32) → (Option (Int64))
  | 0 => fun _ _ _ _ => none
  | n + 1 => fun v0 v1 v2 v4 => 
    if v1 ≤ v4 then
      some v2
    else
      Option.bind (mj_nzl (Int32.toInt64 (v4 + (1 : Int32)))) fun _ =>
      (b_M_choose_5 F n) v0 v1 ((v2 * (Int32.toInt64 (v0 - v4))) / (Int32.toInt64 (v4 + (1 : Int32)))) (v4 + (1 : Int32))
def f_M_choose (F : Nat) (v0 : Int32) (v1 : Int32) : Option (Int64) :=
  b_M_choose_5 F F v0 v1 (1 : Int64) (0 : Int32)
set_option maxHeartbeats 4000000 in
set_option maxRecDepth 200000 in
theorem p_M_choose_5 (F : Nat) (h : MH) {h0 : MH} : ∀ (n : Nat) (v0 : Int32) (v1 : Int32) (v2 : Int64) (v4 : Int32) (r : (Int64)), b_M_choose_5 F  n v0 v1 v2 v4 = some r → Rt mi_M_choose 1 h0 5 [(0, .int v0), (1, .int v1), (2, .long v2), (4, .int v4)] [] h (some (.long r)) h := by
  intro n
  induction n with
  | zero =>
    intro v0 v1 v2 v4 r hyp
    cases hyp
  | succ n ih =>
    intro v0 v1 v2 v4 r hyp
    unfold b_M_choose_5 at hyp
    refine rt_st (pc1 := 8) (fun _ _ B => go_iload 3 d_M_choose_5 rfl (go_iload_n 1 d_M_choose_7 rfl B)) ?_
    by_cases c1 : v1 ≤ v4
    · replace hyp := (if_pos c1).symm.trans hyp
      refine rt_st (pc1 := 32) (fun _ _ B => go_icmp_ge_t 31 d_M_choose_8 rfl c1 (go_lload_n 2 d_M_choose_31 rfl B)) ?_
      exact rt_eqR Value.long hyp (rt_long d_M_choose_32 rfl)
    · replace hyp := (if_neg c1).symm.trans hyp
      obtain ⟨_, e3, hyp⟩ := Option.bind_eq_some_iff.mp hyp
      refine rt_st (pc1 := 5) (fun _ _ B => go_icmp_ge_f d_M_choose_8 rfl c1 (go_lload_n 2 d_M_choose_11 rfl (go_iload_n 0 d_M_choose_12 rfl (go_iload 3 d_M_choose_13 rfl (go_isub d_M_choose_15 (go_i2l d_M_choose_16 (go_lmul d_M_choose_17 (go_iload 3 d_M_choose_18 rfl (go_iconst (v := (1 : Int32)) d_M_choose_20 (by decide) (go_iadd d_M_choose_21 (go_i2l d_M_choose_22 (go_ldiv d_M_choose_23 (mj_nzl_spec e3) (go_lstore_n (lv1 := [(2, .long ((v2 * (Int32.toInt64 (v0 - v4))) / (Int32.toInt64 (v4 + (1 : Int32))))), (0, .int v0), (1, .int v1), (4, .int v4)]) d_M_choose_24 (by decide) rfl (go_iinc (v := (v4 + (1 : Int32))) (lv1 := [(4, .int (v4 + (1 : Int32))), (2, .long ((v2 * (Int32.toInt64 (v0 - v4))) / (Int32.toInt64 (v4 + (1 : Int32))))), (0, .int v0), (1, .int v1)]) 3 d_M_choose_25 rfl rfl (by decide) rfl (go_goto 5 d_M_choose_28 rfl B))))))))))))))) ?_
      refine rt_sub [2, 3, 1, 0] (lv1 := [(0, .int v0), (1, .int v1), (2, .long ((v2 * (Int32.toInt64 (v0 - v4))) / (Int32.toInt64 (v4 + (1 : Int32))))), (4, .int (v4 + (1 : Int32)))]) rfl ?_
      exact ih _ _ _ _ _ hyp
set_option maxHeartbeats 4000000 in
set_option maxRecDepth 200000 in
theorem t_M_choose (F : Nat) (v0 : Int32) (v1 : Int32) (h : MH) (r : (Int64)) (hyp : f_M_choose F v0 v1 = some r) : Mt mi_M_choose 1 [.int v0, .int v1] h (some (.long r)) h := by
  refine Mt.rt (lv := [(0, .int v0), (1, .int v1)]) (by decide +kernel) (by simp [lv_args, mj_rfc, mj_cti, mj_ctl]) (by simp [mj_rfc, mj_cti, mj_ctl]) ?_
  unfold f_M_choose at hyp
  refine rt_st (pc1 := 5) (fun _ _ B => go_lconst (v := (1 : Int64)) d_M_choose_0 (by decide) (go_lstore_n (lv1 := [(2, .long (1 : Int64)), (0, .int v0), (1, .int v1)]) d_M_choose_1 (by decide) rfl (go_iconst (v := (0 : Int32)) d_M_choose_2 (by decide) (go_istore (lv1 := [(4, .int (0 : Int32)), (2, .long (1 : Int64)), (0, .int v0), (1, .int v1)]) d_M_choose_3 (by decide) rfl B)))) ?_
  refine rt_sub [2, 3, 1, 0] (lv1 := [(0, .int v0), (1, .int v1), (2, .long (1 : Int64)), (4, .int (0 : Int32))]) rfl ?_
  exact p_M_choose_5 F h F _ _ _ _ r hyp
/-! WideTurnModel.gcd(JJ)J -/
def b_M_gcd_6 (F : Nat) : Nat → (Int64) → (Int64) → (Option (Int64))
  | 0 => fun _ _ => none
  | n + 1 => fun v4 v6 => 
    if (lg_cmp v6 (0 : Int64)) = 0 then
      some v4
    else
      Option.bind (mj_nzl v6) fun _ =>
      (b_M_gcd_6 F n) v6 (mj_lrem v4 v6)
def f_M_gcd (F : Nat) (v0 : Int64) (v2 : Int64) : Option (Int64) :=
  b_M_gcd_6 F F v0 v2
set_option maxHeartbeats 4000000 in
set_option maxRecDepth 200000 in
theorem p_M_gcd_6 (F : Nat) (h : MH) {h0 : MH} : ∀ (n : Nat) (v4 : Int64) (v6 : Int64) (r : (Int64)), b_M_gcd_6 F  n v4 v6 = some r → Rt mi_M_gcd 1 h0 6 [(4, .long v4), (6, .long v6)] [] h (some (.long r)) h := by
  intro n
  induction n with
  | zero =>
    intro v4 v6 r hyp
    cases hyp
  | succ n ih =>
    intro v4 v6 r hyp
    unfold b_M_gcd_6 at hyp
    refine rt_st (pc1 := 10) (fun _ _ B => go_lload 1 d_M_gcd_6 rfl (go_lconst (v := (0 : Int64)) d_M_gcd_8 (by decide) (go_lcmp d_M_gcd_9 B))) ?_
    by_cases c1 : (lg_cmp v6 (0 : Int64)) = 0
    · replace hyp := (if_pos c1).symm.trans hyp
      refine rt_st (pc1 := 33) (fun _ _ B => go_if_eq_t 31 d_M_gcd_10 rfl c1 (go_lload 0 d_M_gcd_31 rfl B)) ?_
      exact rt_eqR Value.long hyp (rt_long d_M_gcd_33 rfl)
    · replace hyp := (if_neg c1).symm.trans hyp
      obtain ⟨_, e3, hyp⟩ := Option.bind_eq_some_iff.mp hyp
      refine rt_st (pc1 := 6) (fun _ _ B => go_if_eq_f d_M_gcd_10 rfl c1 (go_lload 0 d_M_gcd_13 rfl (go_lload 1 d_M_gcd_15 rfl (go_lrem d_M_gcd_17 (mj_nzl_spec e3) (go_lstore (lv1 := [(8, .long (mj_lrem v4 v6)), (4, .long v4), (6, .long v6)]) d_M_gcd_18 (by decide) rfl (go_lload 2 d_M_gcd_20 rfl (go_lstore (lv1 := [(4, .long v6), (8, .long (mj_lrem v4 v6)), (6, .long v6)]) d_M_gcd_22 (by decide) rfl (go_lload 1 d_M_gcd_24 rfl (go_lstore (lv1 := [(6, .long (mj_lrem v4 v6)), (4, .long v6), (8, .long (mj_lrem v4 v6))]) d_M_gcd_26 (by decide) rfl (go_goto 6 d_M_gcd_28 rfl B)))))))))) ?_
      refine rt_sub [1, 0] (lv1 := [(4, .long v6), (6, .long (mj_lrem v4 v6))]) rfl ?_
      exact ih _ _ _ hyp
set_option maxHeartbeats 4000000 in
set_option maxRecDepth 200000 in
theorem t_M_gcd (F : Nat) (v0 : Int64) (v2 : Int64) (h : MH) (r : (Int64)) (hyp : f_M_gcd F v0 v2 = some r) : Mt mi_M_gcd 1 [.long v0, .long v2] h (some (.long r)) h := by
  refine Mt.rt (lv := [(0, .long v0), (2, .long v2)]) (by decide +kernel) (by simp [lv_args, mj_rfc, mj_cti, mj_ctl]) (by simp [mj_rfc, mj_cti, mj_ctl]) ?_
  unfold f_M_gcd at hyp
  refine rt_st (pc1 := 6) (fun _ _ B => go_lload_n 0 d_M_gcd_0 rfl (go_lstore (lv1 := [(4, .long v0), (0, .long v0), (2, .long v2)]) d_M_gcd_1 (by decide) rfl (go_lload_n 2 d_M_gcd_3 rfl (go_lstore (lv1 := [(6, .long v2), (4, .long v0), (0, .long v0), (2, .long v2)]) d_M_gcd_4 (by decide) rfl B)))) ?_
  refine rt_sub [1, 0] (lv1 := [(4, .long v0), (6, .long v2)]) rfl ?_
  exact p_M_gcd_6 F h F _ _ r hyp
/-! WideTurnModel.gusts(IIII)J -/
def b_M_gusts_54 (F : Nat) : Nat → (Int32) → (Int32) → (Int32) → (Int64) → (Int32) → (MH) → (Option (Int64 × MH))
  | 0 => fun _ _ _ _ _ _ => none
  | n + 1 => fun v1 v2 v4 v5 v7 h => 
    if v2 < v7 then
      Option.bind (f_M_power F (10 : Int64) v2) fun x2 =>
      Option.bind (f_M_gcd F v5 x2) fun x4 =>
      if v4 = 0 then
        Option.bind (mj_nzl x4) fun _ =>
        some ((v5 / x4), h)
      else
        Option.bind (mj_nzl x4) fun _ =>
        some ((x2 / x4), h)
    else
      Option.bind (f_M_choose F v2 v7) fun x11 =>
      Option.bind (f_M_power F (Int32.toInt64 v1) v7) fun x13 =>
      Option.bind (f_M_power F (Int32.toInt64 ((10 : Int32) - v1)) (v2 - v7)) fun x15 =>
      (b_M_gusts_54 F n) v1 v2 v4 (v5 + ((x11 * x13) * x15)) (v7 + (1 : Int32)) h
def f_M_gusts (F : Nat) (v0 : Option Nat) (v1 : Int32) (v2 : Int32) (v3 : Int32) (v4 : Int32) (h : MH) : Option (Int64 × MH) :=
  Option.bind (pfv h v0 [11] 0 (.int (0 : Int32))) fun h1 =>
  if (f_M_in v1 (0 : Int32) (10 : Int32)) = 0 then
    some ((-1000001 : Int64), h1)
  else
    if (f_M_in v2 (0 : Int32) (9 : Int32)) = 0 then
      some ((-1000001 : Int64), h1)
    else
      if (f_M_in v3 (0 : Int32) v2) = 0 then
        some ((-1000001 : Int64), h1)
      else
        if (f_M_in v4 (0 : Int32) (1 : Int32)) = 0 then
          some ((-1000001 : Int64), h1)
        else
          b_M_gusts_54 F F v1 v2 v4 (0 : Int64) v3 h1
set_option maxHeartbeats 4000000 in
set_option maxRecDepth 200000 in
theorem p_M_gusts_54 (F : Nat) {h0 : MH} : ∀ (n : Nat) (v1 : Int32) (v2 : Int32) (v4 : Int32) (v5 : Int64) (v7 : Int32) (h : MH) (r : (Int64 × MH)), b_M_gusts_54 F  n v1 v2 v4 v5 v7 h = some r → Rt mi_M_gusts 2 h0 54 [(1, .int v1), (2, .int v2), (4, .int v4), (5, .long v5), (7, .int v7)] [] h (some (.long r.1)) r.2 := by
  intro n
  induction n with
  | zero =>
    intro v1 v2 v4 v5 v7 h r hyp
    cases hyp
  | succ n ih =>
    intro v1 v2 v4 v5 v7 h r hyp
    unfold b_M_gusts_54 at hyp
    refine rt_st (pc1 := 57) (fun _ _ B => go_iload 4 d_M_gusts_54 rfl (go_iload_n 1 d_M_gusts_56 rfl B)) ?_
    by_cases c1 : v2 < v7
    · replace hyp := (if_pos c1).symm.trans hyp
      obtain ⟨x2, e3, hyp⟩ := Option.bind_eq_some_iff.mp hyp
      obtain ⟨x4, e5, hyp⟩ := Option.bind_eq_some_iff.mp hyp
      refine rt_st (pc1 := 118) (fun _ _ B => go_icmp_gt_t 98 d_M_gusts_57 rfl c1 (go_ldc2 (v := (10 : Int64)) d_M_gusts_98 w1313 (go_iload_n 1 d_M_gusts_101 rfl (go_callS1 (st := []) [.long (10 : Int64), .int v2] (t_M_power F (10 : Int64) v2 h _ e3) mm_M_power (by decide) d_M_gusts_102 w1310 w1311 rfl (Nat.le_of_ble_eq_true rfl) rfl (go_lstore (lv1 := [(7, .long x2), (1, .int v1), (2, .int v2), (4, .int v4), (5, .long v5)]) d_M_gusts_105 (by decide) rfl (go_lload 4 d_M_gusts_107 rfl (go_lload 0 d_M_gusts_109 rfl (go_callS1 (st := []) [.long v5, .long x2] (t_M_gcd F v5 x2 h _ e5) mm_M_gcd (by decide) d_M_gusts_111 w1314 w1315 rfl (Nat.le_of_ble_eq_true rfl) rfl (go_lstore (lv1 := [(9, .long x4), (7, .long x2), (1, .int v1), (2, .int v2), (4, .int v4), (5, .long v5)]) d_M_gusts_114 (by decide) rfl (go_iload 4 d_M_gusts_116 rfl B)))))))))) ?_
      by_cases c6 : v4 = 0
      · replace hyp := (if_pos c6).symm.trans hyp
        obtain ⟨_, e8, hyp⟩ := Option.bind_eq_some_iff.mp hyp
        refine rt_st (pc1 := 134) (fun _ _ B => go_if_ne_f d_M_gusts_118 rfl c6 (go_lload 5 d_M_gusts_121 rfl (go_lload 0 d_M_gusts_123 rfl (go_ldiv d_M_gusts_125 (mj_nzl_spec e8) (go_goto 134 d_M_gusts_126 rfl B))))) ?_
        exact rt_eqW Value.long hyp (rt_long d_M_gusts_134 rfl)
      · replace hyp := (if_neg c6).symm.trans hyp
        obtain ⟨_, e10, hyp⟩ := Option.bind_eq_some_iff.mp hyp
        refine rt_st (pc1 := 134) (fun _ _ B => go_if_ne_t 129 d_M_gusts_118 rfl c6 (go_lload 1 d_M_gusts_129 rfl (go_lload 0 d_M_gusts_131 rfl (go_ldiv d_M_gusts_133 (mj_nzl_spec e10) B)))) ?_
        exact rt_eqW Value.long hyp (rt_long d_M_gusts_134 rfl)
    · replace hyp := (if_neg c1).symm.trans hyp
      obtain ⟨x11, e12, hyp⟩ := Option.bind_eq_some_iff.mp hyp
      obtain ⟨x13, e14, hyp⟩ := Option.bind_eq_some_iff.mp hyp
      obtain ⟨x15, e16, hyp⟩ := Option.bind_eq_some_iff.mp hyp
      refine rt_st (pc1 := 54) (fun _ _ B => go_icmp_gt_f d_M_gusts_57 rfl c1 (go_lload 3 d_M_gusts_60 rfl (go_iload_n 1 d_M_gusts_62 rfl (go_iload 4 d_M_gusts_63 rfl (go_callS1 (st := [.long v5]) [.int v2, .int v7] (t_M_choose F v2 v7 h _ e12) mm_M_choose (by decide) d_M_gusts_65 w1307 w1308 rfl (Nat.le_of_ble_eq_true rfl) rfl (go_iload_n 0 d_M_gusts_68 rfl (go_i2l d_M_gusts_69 (go_iload 4 d_M_gusts_70 rfl (go_callS1 (st := [.long x11, .long v5]) [.long (Int32.toInt64 v1), .int v7] (t_M_power F (Int32.toInt64 v1) v7 h _ e14) mm_M_power (by decide) d_M_gusts_72 w1310 w1311 rfl (Nat.le_of_ble_eq_true rfl) rfl (go_lmul d_M_gusts_75 (go_bipush (v := (10 : Int32)) d_M_gusts_76 (by decide) (go_iload_n 0 d_M_gusts_78 rfl (go_isub d_M_gusts_79 (go_i2l d_M_gusts_80 (go_iload_n 1 d_M_gusts_81 rfl (go_iload 4 d_M_gusts_82 rfl (go_isub d_M_gusts_84 (go_callS1 (st := [.long (x11 * x13), .long v5]) [.long (Int32.toInt64 ((10 : Int32) - v1)), .int (v2 - v7)] (t_M_power F (Int32.toInt64 ((10 : Int32) - v1)) (v2 - v7) h _ e16) mm_M_power (by decide) d_M_gusts_85 w1310 w1311 rfl (Nat.le_of_ble_eq_true rfl) rfl (go_lmul d_M_gusts_88 (go_ladd d_M_gusts_89 (go_lstore (lv1 := [(5, .long (v5 + ((x11 * x13) * x15))), (1, .int v1), (2, .int v2), (4, .int v4), (7, .int v7)]) d_M_gusts_90 (by decide) rfl (go_iinc (v := (v7 + (1 : Int32))) (lv1 := [(7, .int (v7 + (1 : Int32))), (5, .long (v5 + ((x11 * x13) * x15))), (1, .int v1), (2, .int v2), (4, .int v4)]) 4 d_M_gusts_92 rfl rfl (by decide) rfl (go_goto 54 d_M_gusts_95 rfl B))))))))))))))))))))))) ?_
      refine rt_sub [2, 3, 4, 1, 0] (lv1 := [(1, .int v1), (2, .int v2), (4, .int v4), (5, .long (v5 + ((x11 * x13) * x15))), (7, .int (v7 + (1 : Int32)))]) rfl ?_
      exact ih _ _ _ _ _ _ _ hyp
set_option maxHeartbeats 4000000 in
set_option maxRecDepth 200000 in
theorem t_M_gusts (F : Nat) (v0 : Option Nat) (v1 : Int32) (v2 : Int32) (v3 : Int32) (v4 : Int32) (h : MH) (r : (Int64 × MH)) (hyp : f_M_gusts F v0 v1 v2 v3 v4 h = some r) : Mt mi_M_gusts 2 [va_rf v0, .int v1, .int v2, .int v3, .int v4] h (some (.long r.1)) r.2 := by
  refine Mt.rt (lv := [(0, va_rf v0), (1, .int v1), (2, .int v2), (3, .int v3), (4, .int v4)]) (by decide +kernel) (by simp [lv_args, mj_rfc, mj_cti, mj_ctl]) (by simp [mj_rfc, mj_cti, mj_ctl]) ?_
  unfold f_M_gusts at hyp
  obtain ⟨h1, e2, hyp⟩ := Option.bind_eq_some_iff.mp hyp
  refine rt_st (pc1 := 12) (fun _ _ B => go_aload_n 0 d_M_gusts_0 rfl (go_iconst (v := (0 : Int32)) d_M_gusts_1 (by decide) (go_pfi d_M_gusts_2 fd_11_0 w989 (fun q => by cases q) e2 (go_iload_n 1 d_M_gusts_5 rfl (go_iconst (v := (0 : Int32)) d_M_gusts_6 (by decide) (go_bipush (v := (10 : Int32)) d_M_gusts_7 (by decide) (go_callS1 (st := []) [.int v1, .int (0 : Int32), .int (10 : Int32)] (t_M_in v1 (0 : Int32) (10 : Int32) h1) mm_M_in (by decide) d_M_gusts_9 w1073 w1074 rfl (Nat.le_of_ble_eq_true rfl) rfl B))))))) ?_
  by_cases c3 : (f_M_in v1 (0 : Int32) (10 : Int32)) = 0
  · replace hyp := (if_pos c3).symm.trans hyp
    refine rt_st (pc1 := 47) (fun _ _ B => go_if_eq_t 44 d_M_gusts_12 rfl c3 (go_ldc2 (v := (-1000001 : Int64)) d_M_gusts_44 w1306 B)) ?_
    exact rt_eqW Value.long hyp (rt_long d_M_gusts_47 rfl)
  · replace hyp := (if_neg c3).symm.trans hyp
    refine rt_st (pc1 := 22) (fun _ _ B => go_if_eq_f d_M_gusts_12 rfl c3 (go_iload_n 2 d_M_gusts_15 rfl (go_iconst (v := (0 : Int32)) d_M_gusts_16 (by decide) (go_bipush (v := (9 : Int32)) d_M_gusts_17 (by decide) (go_callS1 (st := []) [.int v2, .int (0 : Int32), .int (9 : Int32)] (t_M_in v2 (0 : Int32) (9 : Int32) h1) mm_M_in (by decide) d_M_gusts_19 w1073 w1074 rfl (Nat.le_of_ble_eq_true rfl) rfl B))))) ?_
    by_cases c4 : (f_M_in v2 (0 : Int32) (9 : Int32)) = 0
    · replace hyp := (if_pos c4).symm.trans hyp
      refine rt_st (pc1 := 47) (fun _ _ B => go_if_eq_t 44 d_M_gusts_22 rfl c4 (go_ldc2 (v := (-1000001 : Int64)) d_M_gusts_44 w1306 B)) ?_
      exact rt_eqW Value.long hyp (rt_long d_M_gusts_47 rfl)
    · replace hyp := (if_neg c4).symm.trans hyp
      refine rt_st (pc1 := 31) (fun _ _ B => go_if_eq_f d_M_gusts_22 rfl c4 (go_iload_n 3 d_M_gusts_25 rfl (go_iconst (v := (0 : Int32)) d_M_gusts_26 (by decide) (go_iload_n 2 d_M_gusts_27 rfl (go_callS1 (st := []) [.int v3, .int (0 : Int32), .int v2] (t_M_in v3 (0 : Int32) v2 h1) mm_M_in (by decide) d_M_gusts_28 w1073 w1074 rfl (Nat.le_of_ble_eq_true rfl) rfl B))))) ?_
      by_cases c5 : (f_M_in v3 (0 : Int32) v2) = 0
      · replace hyp := (if_pos c5).symm.trans hyp
        refine rt_st (pc1 := 47) (fun _ _ B => go_if_eq_t 44 d_M_gusts_31 rfl c5 (go_ldc2 (v := (-1000001 : Int64)) d_M_gusts_44 w1306 B)) ?_
        exact rt_eqW Value.long hyp (rt_long d_M_gusts_47 rfl)
      · replace hyp := (if_neg c5).symm.trans hyp
        refine rt_st (pc1 := 41) (fun _ _ B => go_if_eq_f d_M_gusts_31 rfl c5 (go_iload 4 d_M_gusts_34 rfl (go_iconst (v := (0 : Int32)) d_M_gusts_36 (by decide) (go_iconst (v := (1 : Int32)) d_M_gusts_37 (by decide) (go_callS1 (st := []) [.int v4, .int (0 : Int32), .int (1 : Int32)] (t_M_in v4 (0 : Int32) (1 : Int32) h1) mm_M_in (by decide) d_M_gusts_38 w1073 w1074 rfl (Nat.le_of_ble_eq_true rfl) rfl B))))) ?_
        by_cases c6 : (f_M_in v4 (0 : Int32) (1 : Int32)) = 0
        · replace hyp := (if_pos c6).symm.trans hyp
          refine rt_st (pc1 := 47) (fun _ _ B => go_if_ne_f d_M_gusts_41 rfl c6 (go_ldc2 (v := (-1000001 : Int64)) d_M_gusts_44 w1306 B)) ?_
          exact rt_eqW Value.long hyp (rt_long d_M_gusts_47 rfl)
        · replace hyp := (if_neg c6).symm.trans hyp
          refine rt_st (pc1 := 54) (fun _ _ B => go_if_ne_t 48 d_M_gusts_41 rfl c6 (go_lconst (v := (0 : Int64)) d_M_gusts_48 (by decide) (go_lstore (lv1 := [(5, .long (0 : Int64)), (0, va_rf v0), (1, .int v1), (2, .int v2), (3, .int v3), (4, .int v4)]) d_M_gusts_49 (by decide) rfl (go_iload_n 4 d_M_gusts_51 rfl (go_istore (lv1 := [(7, .int v3), (5, .long (0 : Int64)), (0, va_rf v0), (1, .int v1), (2, .int v2), (3, .int v3), (4, .int v4)]) d_M_gusts_52 (by decide) rfl B))))) ?_
          refine rt_sub [3, 4, 6, 1, 0] (lv1 := [(1, .int v1), (2, .int v2), (4, .int v4), (5, .long (0 : Int64)), (7, .int v3)]) rfl ?_
          exact p_M_gusts_54 F F _ _ _ _ _ _ r hyp
/-! WideTurnModel.reach()I -/
def b_M_reach_200 (F : Nat) (k172 : (Option Nat) → Int32 → Int32 → MH → (Option (Int32 × MH))) : (Option Nat) → (Int32) → (Int32) → (Int32) → (MH) → (Option (Int32 × MH)) := fun v0 v3 s0 s1 h => 
  k172 v0 (s0 ||| s1) (v3 + (1 : Int32)) h
def b_M_reach_172 (F : Nat) : Nat → (Option Nat) → (Int32) → (Int32) → (MH) → (Option (Int32 × MH))
  | 0 => fun _ _ _ _ => none
  | n + 1 => fun v0 v1 v3 h => 
    if (576 : Int32) ≤ v3 then
      some (v1, h)
    else
      Option.bind (gfr h v0 [11] 23) fun x2 =>
      Option.bind (ald h x2 0 v3) fun x4 =>
      if x4 = (1 : Int32) then
        b_M_reach_200 F (b_M_reach_172 F n) v0 v3 v1 ((1 : Int32) <<< ((v3 / (24 : Int32)) &&& 31)) h
      else
        b_M_reach_200 F (b_M_reach_172 F n) v0 v3 v1 (0 : Int32) h
def b_M_reach_161 (F : Nat) (k58 : (Option Nat) → Int32 → Int32 → MH → (Option (Int32 × MH))) (k66 : (Option Nat) → Int32 → Int32 → Int32 → MH → (Option (Int32 × MH))) : (Option Nat) → (Int32) → (Int32) → (Int32) → (MH) → (Option (Int32 × MH)) := fun v0 v1 v2 v3 h => 
  k66 v0 v1 v2 (v3 + (1 : Int32)) h
def b_M_reach_149 (F : Nat) (k58 : (Option Nat) → Int32 → Int32 → MH → (Option (Int32 × MH))) (k66 : (Option Nat) → Int32 → Int32 → Int32 → MH → (Option (Int32 × MH))) (k76 : (Option Nat) → Int32 → Int32 → Int32 → Int32 → MH → (Option (Int32 × MH))) (k100 : (Option Nat) → Int32 → Int32 → Int32 → Int32 → Int32 → MH → (Option (Int32 × MH))) : (Option Nat) → (Int32) → (Int32) → (Int32) → (Int32) → (Int32) → (MH) → (Option (Int32 × MH)) := fun v0 v1 v2 v3 v4 v5 h => 
  k100 v0 v1 v2 v3 v4 (v5 + (1 : Int32)) h
def b_M_reach_100 (F : Nat) (k58 : (Option Nat) → Int32 → Int32 → MH → (Option (Int32 × MH))) (k66 : (Option Nat) → Int32 → Int32 → Int32 → MH → (Option (Int32 × MH))) (k76 : (Option Nat) → Int32 → Int32 → Int32 → Int32 → MH → (Option (Int32 × MH))) : Nat → (Option Nat) → (Int32) → (Int32) → (Int32) → (Int32) → (Int32) → (MH) → (Option (Int32 × MH))
  | 0 => fun _ _ _ _ _ _ _ => none
  | n + 1 => fun v0 v1 v2 v3 v4 v5 h => 
    if (8 : Int32) ≤ v5 then
      k76 v0 v1 v2 v3 (v4 + (1 : Int32)) h
    else
      Option.bind (gfr h v0 [11] 15) fun x2 =>
      Option.bind (f_M_behind x2 v3 v4 v5 (0 : Int32) h) fun x4 =>
      if x4.1 = (-1000000 : Int32) then
        b_M_reach_149 F k58 k66 k76 (b_M_reach_100 F k58 k66 k76 n) v0 v1 v2 v3 v4 v5 x4.2
      else
        Option.bind (gfr x4.2 v0 [11] 23) fun x7 =>
        Option.bind (ald x4.2 x7 0 x4.1) fun x9 =>
        if x9 = 0 then
          Option.bind (gfr x4.2 v0 [11] 23) fun x12 =>
          Option.bind (ast x4.2 x12 0 x4.1 (1 : Int32)) fun h14 =>
          b_M_reach_149 F k58 k66 k76 (b_M_reach_100 F k58 k66 k76 n) v0 v1 (1 : Int32) v3 v4 v5 h14
        else
          b_M_reach_149 F k58 k66 k76 (b_M_reach_100 F k58 k66 k76 n) v0 v1 v2 v3 v4 v5 x4.2
def b_M_reach_76 (F : Nat) (k58 : (Option Nat) → Int32 → Int32 → MH → (Option (Int32 × MH))) (k66 : (Option Nat) → Int32 → Int32 → Int32 → MH → (Option (Int32 × MH))) : Nat → (Option Nat) → (Int32) → (Int32) → (Int32) → (Int32) → (MH) → (Option (Int32 × MH))
  | 0 => fun _ _ _ _ _ _ => none
  | n + 1 => fun v0 v1 v2 v3 v4 h => 
    Option.bind (gfr h v0 [11] 15) fun x1 =>
    Option.bind (ald h x1 0 (4 : Int32)) fun x3 =>
    if x3 ≤ v4 then
      b_M_reach_161 F k58 k66 v0 v1 v2 v3 h
    else
      Option.bind (gfr h v0 [11] 23) fun x6 =>
      Option.bind (ald h x6 0 v3) fun x8 =>
      if x8 = (1 : Int32) then
        b_M_reach_100 F k58 k66 (b_M_reach_76 F k58 k66 n) F v0 v1 v2 v3 v4 (0 : Int32) h
      else
        b_M_reach_161 F k58 k66 v0 v1 v2 v3 h
def b_M_reach_66 (F : Nat) (k58 : (Option Nat) → Int32 → Int32 → MH → (Option (Int32 × MH))) : Nat → (Option Nat) → (Int32) → (Int32) → (Int32) → (MH) → (Option (Int32 × MH))
  | 0 => fun _ _ _ _ _ => none
  | n + 1 => fun v0 v1 v2 v3 h => 
    if (576 : Int32) ≤ v3 then
      k58 v0 v1 v2 h
    else
      b_M_reach_76 F k58 (b_M_reach_66 F k58 n) F v0 v1 v2 v3 (0 : Int32) h
def b_M_reach_58 (F : Nat) : Nat → (Option Nat) → (Int32) → (Int32) → (MH) → (Option (Int32 × MH))
  | 0 => fun _ _ _ _ => none
  | n + 1 => fun v0 v1 v2 h => 
    if v2 = 0 then
      b_M_reach_172 F F v0 v1 (0 : Int32) h
    else
      b_M_reach_66 F (b_M_reach_58 F n) F v0 v1 (0 : Int32) (0 : Int32) h
def b_M_reach_47 (F : Nat) (k19 : (Option Nat) → Int32 → MH → (Option (Int32 × MH))) : (Option Nat) → (Int32) → (Option Nat) → (Int32) → (Int32) → (MH) → (Option (Int32 × MH)) := fun v0 v1 s0 s1 s2 h => 
  Option.bind (ast h s0 0 s1 s2) fun h1 =>
  k19 v0 (v1 + (1 : Int32)) h1
def b_M_reach_19 (F : Nat) : Nat → (Option Nat) → (Int32) → (MH) → (Option (Int32 × MH))
  | 0 => fun _ _ _ => none
  | n + 1 => fun v0 v1 h => 
    if (576 : Int32) ≤ v1 then
      b_M_reach_58 F F v0 (0 : Int32) (1 : Int32) h
    else
      Option.bind (gfr h v0 [11] 23) fun x2 =>
      Option.bind (gfr h v0 [11] 15) fun x4 =>
      Option.bind (f_M_node x4 h) fun x6 =>
      if v1 = x6 then
        b_M_reach_47 F (b_M_reach_19 F n) v0 v1 x2 v1 (1 : Int32) h
      else
        b_M_reach_47 F (b_M_reach_19 F n) v0 v1 x2 v1 (0 : Int32) h
def f_M_reach (F : Nat) (v0 : Option Nat) (h : MH) : Option (Int32 × MH) :=
  Option.bind (pfv h v0 [11] 0 (.int (0 : Int32))) fun h1 =>
  Option.bind (gfr h1 v0 [11] 15) fun x3 =>
  Option.bind (ald h1 x3 0 (0 : Int32)) fun x5 =>
  if x5 = 0 then
    some ((-1000002 : Int32), h1)
  else
    b_M_reach_19 F F v0 (0 : Int32) h1
set_option maxHeartbeats 4000000 in
set_option maxRecDepth 200000 in
theorem p_M_reach_200 (F : Nat) {h0 : MH} (k172 : (Option Nat) → Int32 → Int32 → MH → (Option (Int32 × MH))) (hk172 : ∀ (v0 : Option Nat) (v1 : Int32) (v3 : Int32) (h : MH) (r : (Int32 × MH)), k172 v0 v1 v3 h = some r → Rt mi_M_reach 7 h0 172 [(0, va_rf v0), (1, .int v1), (3, .int v3)] [] h (some (.int r.1)) r.2) (v0 : Option Nat) (v3 : Int32) (s0 : Int32) (s1 : Int32) (h : MH) (r : (Int32 × MH)) : b_M_reach_200 F k172  v0 v3 s0 s1 h = some r → Rt mi_M_reach 7 h0 200 [(0, va_rf v0), (3, .int v3)] [.int s1, .int s0] h (some (.int r.1)) r.2 := by
  intro hyp
  unfold b_M_reach_200 at hyp
  refine rt_st (pc1 := 172) (fun _ _ B => go_ior d_M_reach_200 (go_istore_n (lv1 := [(1, .int (s0 ||| s1)), (0, va_rf v0), (3, .int v3)]) d_M_reach_201 (by decide) (by first | (simp [mj_s1, mj_s2, mj_rfc, mj_cti, mj_ctl]; done) | (simp [mj_s1, mj_s2, mj_rfc, mj_cti, mj_ctl]; decide)) (go_iinc (v := (v3 + (1 : Int32))) (lv1 := [(3, .int (v3 + (1 : Int32))), (1, .int (s0 ||| s1)), (0, va_rf v0)]) 2 d_M_reach_202 rfl rfl (by decide) rfl (go_goto 172 d_M_reach_205 rfl B)))) ?_
  refine rt_sub [2, 1, 0] (lv1 := [(0, va_rf v0), (1, .int (s0 ||| s1)), (3, .int (v3 + (1 : Int32)))]) rfl ?_
  exact hk172 _ _ _ _ _ hyp
set_option maxHeartbeats 4000000 in
set_option maxRecDepth 200000 in
theorem p_M_reach_172 (F : Nat) {h0 : MH} : ∀ (n : Nat) (v0 : Option Nat) (v1 : Int32) (v3 : Int32) (h : MH) (r : (Int32 × MH)), b_M_reach_172 F  n v0 v1 v3 h = some r → Rt mi_M_reach 7 h0 172 [(0, va_rf v0), (1, .int v1), (3, .int v3)] [] h (some (.int r.1)) r.2 := by
  intro n
  induction n with
  | zero =>
    intro v0 v1 v3 h r hyp
    cases hyp
  | succ n ih =>
    intro v0 v1 v3 h r hyp
    unfold b_M_reach_172 at hyp
    refine rt_st (pc1 := 176) (fun _ _ B => go_iload_n 2 d_M_reach_172 rfl (go_sipush (v := (576 : Int32)) d_M_reach_173 (by decide) B)) ?_
    by_cases c1 : (576 : Int32) ≤ v3
    · replace hyp := (if_pos c1).symm.trans hyp
      refine rt_st (pc1 := 209) (fun _ _ B => go_icmp_ge_t 208 d_M_reach_176 rfl c1 (go_iload_n 1 d_M_reach_208 rfl B)) ?_
      exact rt_eqW Value.int hyp (rt_int d_M_reach_209 rfl)
    · replace hyp := (if_neg c1).symm.trans hyp
      obtain ⟨x2, e3, hyp⟩ := Option.bind_eq_some_iff.mp hyp
      obtain ⟨x4, e5, hyp⟩ := Option.bind_eq_some_iff.mp hyp
      refine rt_st (pc1 := 187) (fun _ _ B => go_icmp_ge_f d_M_reach_176 rfl c1 (go_iload_n 1 d_M_reach_179 rfl (go_aload_n 0 d_M_reach_180 rfl (go_gfr d_M_reach_181 fd_11_23 w1012 e3 (go_iload_n 2 d_M_reach_184 rfl (go_iald d_M_reach_185 e5 (go_iconst (v := (1 : Int32)) d_M_reach_186 (by decide) B))))))) ?_
      by_cases c6 : x4 = (1 : Int32)
      · replace hyp := (if_pos c6).symm.trans hyp
        refine rt_st (pc1 := 200) (fun _ _ B => go_icmp_ne_f d_M_reach_187 rfl c6 (go_iconst (v := (1 : Int32)) d_M_reach_190 (by decide) (go_iload_n 2 d_M_reach_191 rfl (go_bipush (v := (24 : Int32)) d_M_reach_192 (by decide) (go_idiv d_M_reach_194 (by decide) (go_ishl d_M_reach_195 (go_goto 200 d_M_reach_196 rfl B))))))) ?_
        refine rt_sub [0, 2] (lv1 := [(0, va_rf v0), (3, .int v3)]) rfl ?_
        exact p_M_reach_200 F (b_M_reach_172 F n) (fun a0 a1 a2 a3 r hyp => ih a0 a1 a2 a3 r hyp) _ _ _ _ _ r hyp
      · replace hyp := (if_neg c6).symm.trans hyp
        refine rt_st (pc1 := 200) (fun _ _ B => go_icmp_ne_t 199 d_M_reach_187 rfl c6 (go_iconst (v := (0 : Int32)) d_M_reach_199 (by decide) B)) ?_
        refine rt_sub [0, 2] (lv1 := [(0, va_rf v0), (3, .int v3)]) rfl ?_
        exact p_M_reach_200 F (b_M_reach_172 F n) (fun a0 a1 a2 a3 r hyp => ih a0 a1 a2 a3 r hyp) _ _ _ _ _ r hyp
set_option maxHeartbeats 4000000 in
set_option maxRecDepth 200000 in
theorem p_M_reach_161 (F : Nat) {h0 : MH} (k58 : (Option Nat) → Int32 → Int32 → MH → (Option (Int32 × MH))) (k66 : (Option Nat) → Int32 → Int32 → Int32 → MH → (Option (Int32 × MH))) (hk58 : ∀ (v0 : Option Nat) (v1 : Int32) (v2 : Int32) (h : MH) (r : (Int32 × MH)), k58 v0 v1 v2 h = some r → Rt mi_M_reach 7 h0 58 [(0, va_rf v0), (1, .int v1), (2, .int v2)] [] h (some (.int r.1)) r.2) (hk66 : ∀ (v0 : Option Nat) (v1 : Int32) (v2 : Int32) (v3 : Int32) (h : MH) (r : (Int32 × MH)), k66 v0 v1 v2 v3 h = some r → Rt mi_M_reach 7 h0 66 [(0, va_rf v0), (1, .int v1), (2, .int v2), (3, .int v3)] [] h (some (.int r.1)) r.2) (v0 : Option Nat) (v1 : Int32) (v2 : Int32) (v3 : Int32) (h : MH) (r : (Int32 × MH)) : b_M_reach_161 F k58 k66  v0 v1 v2 v3 h = some r → Rt mi_M_reach 7 h0 161 [(0, va_rf v0), (1, .int v1), (2, .int v2), (3, .int v3)] [] h (some (.int r.1)) r.2 := by
  intro hyp
  unfold b_M_reach_161 at hyp
  refine rt_st (pc1 := 66) (fun _ _ B => go_iinc (v := (v3 + (1 : Int32))) (lv1 := [(3, .int (v3 + (1 : Int32))), (0, va_rf v0), (1, .int v1), (2, .int v2)]) 3 d_M_reach_161 rfl rfl (by decide) rfl (go_goto 66 d_M_reach_164 rfl B)) ?_
  refine rt_sub [1, 2, 3, 0] (lv1 := [(0, va_rf v0), (1, .int v1), (2, .int v2), (3, .int (v3 + (1 : Int32)))]) rfl ?_
  exact hk66 _ _ _ _ _ _ hyp
set_option maxHeartbeats 4000000 in
set_option maxRecDepth 200000 in
theorem p_M_reach_149 (F : Nat) {h0 : MH} (k58 : (Option Nat) → Int32 → Int32 → MH → (Option (Int32 × MH))) (k66 : (Option Nat) → Int32 → Int32 → Int32 → MH → (Option (Int32 × MH))) (k76 : (Option Nat) → Int32 → Int32 → Int32 → Int32 → MH → (Option (Int32 × MH))) (k100 : (Option Nat) → Int32 → Int32 → Int32 → Int32 → Int32 → MH → (Option (Int32 × MH))) (hk58 : ∀ (v0 : Option Nat) (v1 : Int32) (v2 : Int32) (h : MH) (r : (Int32 × MH)), k58 v0 v1 v2 h = some r → Rt mi_M_reach 7 h0 58 [(0, va_rf v0), (1, .int v1), (2, .int v2)] [] h (some (.int r.1)) r.2) (hk66 : ∀ (v0 : Option Nat) (v1 : Int32) (v2 : Int32) (v3 : Int32) (h : MH) (r : (Int32 × MH)), k66 v0 v1 v2 v3 h = some r → Rt mi_M_reach 7 h0 66 [(0, va_rf v0), (1, .int v1), (2, .int v2), (3, .int v3)] [] h (some (.int r.1)) r.2) (hk76 : ∀ (v0 : Option Nat) (v1 : Int32) (v2 : Int32) (v3 : Int32) (v4 : Int32) (h : MH) (r : (Int32 × MH)), k76 v0 v1 v2 v3 v4 h = some r → Rt mi_M_reach 7 h0 76 [(0, va_rf v0), (1, .int v1), (2, .int v2), (3, .int v3), (4, .int v4)] [] h (some (.int r.1)) r.2) (hk100 : ∀ (v0 : Option Nat) (v1 : Int32) (v2 : Int32) (v3 : Int32) (v4 : Int32) (v5 : Int32) (h : MH) (r : (Int32 × MH)), k100 v0 v1 v2 v3 v4 v5 h = some r → Rt mi_M_reach 7 h0 100 [(0, va_rf v0), (1, .int v1), (2, .int v2), (3, .int v3), (4, .int v4), (5, .int v5)] [] h (some (.int r.1)) r.2) (v0 : Option Nat) (v1 : Int32) (v2 : Int32) (v3 : Int32) (v4 : Int32) (v5 : Int32) (h : MH) (r : (Int32 × MH)) : b_M_reach_149 F k58 k66 k76 k100  v0 v1 v2 v3 v4 v5 h = some r → Rt mi_M_reach 7 h0 149 [(0, va_rf v0), (1, .int v1), (2, .int v2), (3, .int v3), (4, .int v4), (5, .int v5)] [] h (some (.int r.1)) r.2 := by
  intro hyp
  unfold b_M_reach_149 at hyp
  refine rt_st (pc1 := 100) (fun _ _ B => go_iinc (v := (v5 + (1 : Int32))) (lv1 := [(5, .int (v5 + (1 : Int32))), (0, va_rf v0), (1, .int v1), (2, .int v2), (3, .int v3), (4, .int v4)]) 5 d_M_reach_149 rfl rfl (by decide) rfl (go_goto 100 d_M_reach_152 rfl B)) ?_
  refine rt_sub [1, 2, 3, 4, 5, 0] (lv1 := [(0, va_rf v0), (1, .int v1), (2, .int v2), (3, .int v3), (4, .int v4), (5, .int (v5 + (1 : Int32)))]) rfl ?_
  exact hk100 _ _ _ _ _ _ _ _ hyp
set_option maxHeartbeats 4000000 in
set_option maxRecDepth 200000 in
theorem p_M_reach_100 (F : Nat) {h0 : MH} (k58 : (Option Nat) → Int32 → Int32 → MH → (Option (Int32 × MH))) (k66 : (Option Nat) → Int32 → Int32 → Int32 → MH → (Option (Int32 × MH))) (k76 : (Option Nat) → Int32 → Int32 → Int32 → Int32 → MH → (Option (Int32 × MH))) (hk58 : ∀ (v0 : Option Nat) (v1 : Int32) (v2 : Int32) (h : MH) (r : (Int32 × MH)), k58 v0 v1 v2 h = some r → Rt mi_M_reach 7 h0 58 [(0, va_rf v0), (1, .int v1), (2, .int v2)] [] h (some (.int r.1)) r.2) (hk66 : ∀ (v0 : Option Nat) (v1 : Int32) (v2 : Int32) (v3 : Int32) (h : MH) (r : (Int32 × MH)), k66 v0 v1 v2 v3 h = some r → Rt mi_M_reach 7 h0 66 [(0, va_rf v0), (1, .int v1), (2, .int v2), (3, .int v3)] [] h (some (.int r.1)) r.2) (hk76 : ∀ (v0 : Option Nat) (v1 : Int32) (v2 : Int32) (v3 : Int32) (v4 : Int32) (h : MH) (r : (Int32 × MH)), k76 v0 v1 v2 v3 v4 h = some r → Rt mi_M_reach 7 h0 76 [(0, va_rf v0), (1, .int v1), (2, .int v2), (3, .int v3), (4, .int v4)] [] h (some (.int r.1)) r.2) : ∀ (n : Nat) (v0 : Option Nat) (v1 : Int32) (v2 : Int32) (v3 : Int32) (v4 : Int32) (v5 : Int32) (h : MH) (r : (Int32 × MH)), b_M_reach_100 F k58 k66 k76  n v0 v1 v2 v3 v4 v5 h = some r → Rt mi_M_reach 7 h0 100 [(0, va_rf v0), (1, .int v1), (2, .int v2), (3, .int v3), (4, .int v4), (5, .int v5)] [] h (some (.int r.1)) r.2 := by
  intro n
  induction n with
  | zero =>
    intro v0 v1 v2 v3 v4 v5 h r hyp
    cases hyp
  | succ n ih =>
    intro v0 v1 v2 v3 v4 v5 h r hyp
    unfold b_M_reach_100 at hyp
    refine rt_st (pc1 := 104) (fun _ _ B => go_iload 5 d_M_reach_100 rfl (go_bipush (v := (8 : Int32)) d_M_reach_102 (by decide) B)) ?_
    by_cases c1 : (8 : Int32) ≤ v5
    · replace hyp := (if_pos c1).symm.trans hyp
      refine rt_st (pc1 := 76) (fun _ _ B => go_icmp_ge_t 155 d_M_reach_104 rfl c1 (go_iinc (v := (v4 + (1 : Int32))) (lv1 := [(4, .int (v4 + (1 : Int32))), (0, va_rf v0), (1, .int v1), (2, .int v2), (3, .int v3), (5, .int v5)]) 4 d_M_reach_155 rfl rfl (by decide) rfl (go_goto 76 d_M_reach_158 rfl B))) ?_
      refine rt_sub [1, 2, 3, 4, 0] (lv1 := [(0, va_rf v0), (1, .int v1), (2, .int v2), (3, .int v3), (4, .int (v4 + (1 : Int32)))]) rfl ?_
      exact hk76 _ _ _ _ _ _ _ hyp
    · replace hyp := (if_neg c1).symm.trans hyp
      obtain ⟨x2, e3, hyp⟩ := Option.bind_eq_some_iff.mp hyp
      obtain ⟨x4, e5, hyp⟩ := Option.bind_eq_some_iff.mp hyp
      refine rt_st (pc1 := 126) (fun _ _ B => go_icmp_ge_f d_M_reach_104 rfl c1 (go_aload_n 0 d_M_reach_107 rfl (go_gfr d_M_reach_108 fd_11_15 w1004 e3 (go_iload_n 3 d_M_reach_111 rfl (go_iload 4 d_M_reach_112 rfl (go_iload 5 d_M_reach_114 rfl (go_iconst (v := (0 : Int32)) d_M_reach_116 (by decide) (go_callS1 (st := []) [va_rf x2, .int v3, .int v4, .int v5, .int (0 : Int32)] (t_M_behind x2 v3 v4 v5 (0 : Int32) h _ e5) mm_M_behind (by decide) d_M_reach_117 w1249 w1250 rfl (Nat.le_of_ble_eq_true rfl) rfl (go_istore (lv1 := [(6, .int x4.1), (0, va_rf v0), (1, .int v1), (2, .int v2), (3, .int v3), (4, .int v4), (5, .int v5)]) d_M_reach_120 (by decide) rfl (go_iload 0 d_M_reach_122 rfl (go_ldc (v := (-1000000 : Int32)) d_M_reach_124 w1239 B))))))))))) ?_
      by_cases c6 : x4.1 = (-1000000 : Int32)
      · replace hyp := (if_pos c6).symm.trans hyp
        refine rt_st (pc1 := 149) (fun _ _ B => go_icmp_eq_t 149 d_M_reach_126 rfl c6 B) ?_
        refine rt_sub [1, 2, 3, 4, 5, 6] (lv1 := [(0, va_rf v0), (1, .int v1), (2, .int v2), (3, .int v3), (4, .int v4), (5, .int v5)]) rfl ?_
        exact p_M_reach_149 F k58 k66 k76 (b_M_reach_100 F k58 k66 k76 n) hk58 hk66 hk76 (fun a0 a1 a2 a3 a4 a5 a6 r hyp => ih a0 a1 a2 a3 a4 a5 a6 r hyp) _ _ _ _ _ _ _ r hyp
      · replace hyp := (if_neg c6).symm.trans hyp
        obtain ⟨x7, e8, hyp⟩ := Option.bind_eq_some_iff.mp hyp
        obtain ⟨x9, e10, hyp⟩ := Option.bind_eq_some_iff.mp hyp
        refine rt_st (pc1 := 136) (fun _ _ B => go_icmp_eq_f d_M_reach_126 rfl c6 (go_aload_n 1 d_M_reach_129 rfl (go_gfr d_M_reach_130 fd_11_23 w1012 e8 (go_iload 0 d_M_reach_133 rfl (go_iald d_M_reach_135 e10 B))))) ?_
        by_cases c11 : x9 = 0
        · replace hyp := (if_pos c11).symm.trans hyp
          obtain ⟨x12, e13, hyp⟩ := Option.bind_eq_some_iff.mp hyp
          obtain ⟨h14, e15, hyp⟩ := Option.bind_eq_some_iff.mp hyp
          refine rt_st (pc1 := 149) (fun _ _ B => go_if_ne_f d_M_reach_136 rfl c11 (go_aload_n 1 d_M_reach_139 rfl (go_gfr d_M_reach_140 fd_11_23 w1012 e13 (go_iload 0 d_M_reach_143 rfl (go_iconst (v := (1 : Int32)) d_M_reach_145 (by decide) (go_iast d_M_reach_146 e15 (go_iconst (v := (1 : Int32)) d_M_reach_147 (by decide) (go_istore_n (lv1 := [(2, .int (1 : Int32)), (6, .int x4.1), (0, va_rf v0), (1, .int v1), (3, .int v3), (4, .int v4), (5, .int v5)]) d_M_reach_148 (by decide) rfl B)))))))) ?_
          refine rt_sub [2, 3, 0, 4, 5, 6] (lv1 := [(0, va_rf v0), (1, .int v1), (2, .int (1 : Int32)), (3, .int v3), (4, .int v4), (5, .int v5)]) rfl ?_
          exact p_M_reach_149 F k58 k66 k76 (b_M_reach_100 F k58 k66 k76 n) hk58 hk66 hk76 (fun a0 a1 a2 a3 a4 a5 a6 r hyp => ih a0 a1 a2 a3 a4 a5 a6 r hyp) _ _ _ _ _ _ _ r hyp
        · replace hyp := (if_neg c11).symm.trans hyp
          refine rt_st (pc1 := 149) (fun _ _ B => go_if_ne_t 149 d_M_reach_136 rfl c11 B) ?_
          refine rt_sub [1, 2, 3, 4, 5, 6] (lv1 := [(0, va_rf v0), (1, .int v1), (2, .int v2), (3, .int v3), (4, .int v4), (5, .int v5)]) rfl ?_
          exact p_M_reach_149 F k58 k66 k76 (b_M_reach_100 F k58 k66 k76 n) hk58 hk66 hk76 (fun a0 a1 a2 a3 a4 a5 a6 r hyp => ih a0 a1 a2 a3 a4 a5 a6 r hyp) _ _ _ _ _ _ _ r hyp
set_option maxHeartbeats 4000000 in
set_option maxRecDepth 200000 in
theorem p_M_reach_76 (F : Nat) {h0 : MH} (k58 : (Option Nat) → Int32 → Int32 → MH → (Option (Int32 × MH))) (k66 : (Option Nat) → Int32 → Int32 → Int32 → MH → (Option (Int32 × MH))) (hk58 : ∀ (v0 : Option Nat) (v1 : Int32) (v2 : Int32) (h : MH) (r : (Int32 × MH)), k58 v0 v1 v2 h = some r → Rt mi_M_reach 7 h0 58 [(0, va_rf v0), (1, .int v1), (2, .int v2)] [] h (some (.int r.1)) r.2) (hk66 : ∀ (v0 : Option Nat) (v1 : Int32) (v2 : Int32) (v3 : Int32) (h : MH) (r : (Int32 × MH)), k66 v0 v1 v2 v3 h = some r → Rt mi_M_reach 7 h0 66 [(0, va_rf v0), (1, .int v1), (2, .int v2), (3, .int v3)] [] h (some (.int r.1)) r.2) : ∀ (n : Nat) (v0 : Option Nat) (v1 : Int32) (v2 : Int32) (v3 : Int32) (v4 : Int32) (h : MH) (r : (Int32 × MH)), b_M_reach_76 F k58 k66  n v0 v1 v2 v3 v4 h = some r → Rt mi_M_reach 7 h0 76 [(0, va_rf v0), (1, .int v1), (2, .int v2), (3, .int v3), (4, .int v4)] [] h (some (.int r.1)) r.2 := by
  intro n
  induction n with
  | zero =>
    intro v0 v1 v2 v3 v4 h r hyp
    cases hyp
  | succ n ih =>
    intro v0 v1 v2 v3 v4 h r hyp
    unfold b_M_reach_76 at hyp
    obtain ⟨x1, e2, hyp⟩ := Option.bind_eq_some_iff.mp hyp
    obtain ⟨x3, e4, hyp⟩ := Option.bind_eq_some_iff.mp hyp
    refine rt_st (pc1 := 84) (fun _ _ B => go_iload 4 d_M_reach_76 rfl (go_aload_n 0 d_M_reach_78 rfl (go_gfr d_M_reach_79 fd_11_15 w1004 e2 (go_iconst (v := (4 : Int32)) d_M_reach_82 (by decide) (go_iald d_M_reach_83 e4 B))))) ?_
    by_cases c5 : x3 ≤ v4
    · replace hyp := (if_pos c5).symm.trans hyp
      refine rt_st (pc1 := 161) (fun _ _ B => go_icmp_ge_t 161 d_M_reach_84 rfl c5 B) ?_
      refine rt_sub [0, 1, 2, 3] (lv1 := [(0, va_rf v0), (1, .int v1), (2, .int v2), (3, .int v3)]) rfl ?_
      exact p_M_reach_161 F k58 k66 hk58 hk66 _ _ _ _ _ r hyp
    · replace hyp := (if_neg c5).symm.trans hyp
      obtain ⟨x6, e7, hyp⟩ := Option.bind_eq_some_iff.mp hyp
      obtain ⟨x8, e9, hyp⟩ := Option.bind_eq_some_iff.mp hyp
      refine rt_st (pc1 := 94) (fun _ _ B => go_icmp_ge_f d_M_reach_84 rfl c5 (go_aload_n 0 d_M_reach_87 rfl (go_gfr d_M_reach_88 fd_11_23 w1012 e7 (go_iload_n 3 d_M_reach_91 rfl (go_iald d_M_reach_92 e9 (go_iconst (v := (1 : Int32)) d_M_reach_93 (by decide) B)))))) ?_
      by_cases c10 : x8 = (1 : Int32)
      · replace hyp := (if_pos c10).symm.trans hyp
        refine rt_st (pc1 := 100) (fun _ _ B => go_icmp_ne_f d_M_reach_94 rfl c10 (go_iconst (v := (0 : Int32)) d_M_reach_97 (by decide) (go_istore (lv1 := [(5, .int (0 : Int32)), (0, va_rf v0), (1, .int v1), (2, .int v2), (3, .int v3), (4, .int v4)]) d_M_reach_98 (by decide) rfl B))) ?_
        refine rt_sub [1, 2, 3, 4, 5, 0] (lv1 := [(0, va_rf v0), (1, .int v1), (2, .int v2), (3, .int v3), (4, .int v4), (5, .int (0 : Int32))]) rfl ?_
        exact p_M_reach_100 F k58 k66 (b_M_reach_76 F k58 k66 n) hk58 hk66 (fun a0 a1 a2 a3 a4 a5 r hyp => ih a0 a1 a2 a3 a4 a5 r hyp) F _ _ _ _ _ _ _ r hyp
      · replace hyp := (if_neg c10).symm.trans hyp
        refine rt_st (pc1 := 161) (fun _ _ B => go_icmp_ne_t 161 d_M_reach_94 rfl c10 B) ?_
        refine rt_sub [0, 1, 2, 3] (lv1 := [(0, va_rf v0), (1, .int v1), (2, .int v2), (3, .int v3)]) rfl ?_
        exact p_M_reach_161 F k58 k66 hk58 hk66 _ _ _ _ _ r hyp
set_option maxHeartbeats 4000000 in
set_option maxRecDepth 200000 in
theorem p_M_reach_66 (F : Nat) {h0 : MH} (k58 : (Option Nat) → Int32 → Int32 → MH → (Option (Int32 × MH))) (hk58 : ∀ (v0 : Option Nat) (v1 : Int32) (v2 : Int32) (h : MH) (r : (Int32 × MH)), k58 v0 v1 v2 h = some r → Rt mi_M_reach 7 h0 58 [(0, va_rf v0), (1, .int v1), (2, .int v2)] [] h (some (.int r.1)) r.2) : ∀ (n : Nat) (v0 : Option Nat) (v1 : Int32) (v2 : Int32) (v3 : Int32) (h : MH) (r : (Int32 × MH)), b_M_reach_66 F k58  n v0 v1 v2 v3 h = some r → Rt mi_M_reach 7 h0 66 [(0, va_rf v0), (1, .int v1), (2, .int v2), (3, .int v3)] [] h (some (.int r.1)) r.2 := by
  intro n
  induction n with
  | zero =>
    intro v0 v1 v2 v3 h r hyp
    cases hyp
  | succ n ih =>
    intro v0 v1 v2 v3 h r hyp
    unfold b_M_reach_66 at hyp
    refine rt_st (pc1 := 70) (fun _ _ B => go_iload_n 3 d_M_reach_66 rfl (go_sipush (v := (576 : Int32)) d_M_reach_67 (by decide) B)) ?_
    by_cases c1 : (576 : Int32) ≤ v3
    · replace hyp := (if_pos c1).symm.trans hyp
      refine rt_st (pc1 := 58) (fun _ _ B => go_icmp_ge_t 167 d_M_reach_70 rfl c1 (go_goto 58 d_M_reach_167 rfl B)) ?_
      refine rt_sub [0, 1, 2] (lv1 := [(0, va_rf v0), (1, .int v1), (2, .int v2)]) rfl ?_
      exact hk58 _ _ _ _ _ hyp
    · replace hyp := (if_neg c1).symm.trans hyp
      refine rt_st (pc1 := 76) (fun _ _ B => go_icmp_ge_f d_M_reach_70 rfl c1 (go_iconst (v := (0 : Int32)) d_M_reach_73 (by decide) (go_istore (lv1 := [(4, .int (0 : Int32)), (0, va_rf v0), (1, .int v1), (2, .int v2), (3, .int v3)]) d_M_reach_74 (by decide) rfl B))) ?_
      refine rt_sub [1, 2, 3, 4, 0] (lv1 := [(0, va_rf v0), (1, .int v1), (2, .int v2), (3, .int v3), (4, .int (0 : Int32))]) rfl ?_
      exact p_M_reach_76 F k58 (b_M_reach_66 F k58 n) hk58 (fun a0 a1 a2 a3 a4 r hyp => ih a0 a1 a2 a3 a4 r hyp) F _ _ _ _ _ _ r hyp
set_option maxHeartbeats 4000000 in
set_option maxRecDepth 200000 in
theorem p_M_reach_58 (F : Nat) {h0 : MH} : ∀ (n : Nat) (v0 : Option Nat) (v1 : Int32) (v2 : Int32) (h : MH) (r : (Int32 × MH)), b_M_reach_58 F  n v0 v1 v2 h = some r → Rt mi_M_reach 7 h0 58 [(0, va_rf v0), (1, .int v1), (2, .int v2)] [] h (some (.int r.1)) r.2 := by
  intro n
  induction n with
  | zero =>
    intro v0 v1 v2 h r hyp
    cases hyp
  | succ n ih =>
    intro v0 v1 v2 h r hyp
    unfold b_M_reach_58 at hyp
    refine rt_st (pc1 := 59) (fun _ _ B => go_iload_n 2 d_M_reach_58 rfl B) ?_
    by_cases c1 : v2 = 0
    · replace hyp := (if_pos c1).symm.trans hyp
      refine rt_st (pc1 := 172) (fun _ _ B => go_if_eq_t 170 d_M_reach_59 rfl c1 (go_iconst (v := (0 : Int32)) d_M_reach_170 (by decide) (go_istore_n (lv1 := [(3, .int (0 : Int32)), (0, va_rf v0), (1, .int v1), (2, .int v2)]) d_M_reach_171 (by decide) rfl B))) ?_
      refine rt_sub [1, 2, 0] (lv1 := [(0, va_rf v0), (1, .int v1), (3, .int (0 : Int32))]) rfl ?_
      exact p_M_reach_172 F F _ _ _ _ r hyp
    · replace hyp := (if_neg c1).symm.trans hyp
      refine rt_st (pc1 := 66) (fun _ _ B => go_if_eq_f d_M_reach_59 rfl c1 (go_iconst (v := (0 : Int32)) d_M_reach_62 (by decide) (go_istore_n (lv1 := [(2, .int (0 : Int32)), (0, va_rf v0), (1, .int v1)]) d_M_reach_63 (by decide) rfl (go_iconst (v := (0 : Int32)) d_M_reach_64 (by decide) (go_istore_n (lv1 := [(3, .int (0 : Int32)), (2, .int (0 : Int32)), (0, va_rf v0), (1, .int v1)]) d_M_reach_65 (by decide) rfl B))))) ?_
      refine rt_sub [2, 3, 1, 0] (lv1 := [(0, va_rf v0), (1, .int v1), (2, .int (0 : Int32)), (3, .int (0 : Int32))]) rfl ?_
      exact p_M_reach_66 F (b_M_reach_58 F n) (fun a0 a1 a2 a3 r hyp => ih a0 a1 a2 a3 r hyp) F _ _ _ _ _ r hyp
set_option maxHeartbeats 4000000 in
set_option maxRecDepth 200000 in
theorem p_M_reach_47 (F : Nat) {h0 : MH} (k19 : (Option Nat) → Int32 → MH → (Option (Int32 × MH))) (hk19 : ∀ (v0 : Option Nat) (v1 : Int32) (h : MH) (r : (Int32 × MH)), k19 v0 v1 h = some r → Rt mi_M_reach 7 h0 19 [(0, va_rf v0), (1, .int v1)] [] h (some (.int r.1)) r.2) (v0 : Option Nat) (v1 : Int32) (s0 : Option Nat) (s1 : Int32) (s2 : Int32) (h : MH) (r : (Int32 × MH)) : b_M_reach_47 F k19  v0 v1 s0 s1 s2 h = some r → Rt mi_M_reach 7 h0 47 [(0, va_rf v0), (1, .int v1)] [.int s2, .int s1, va_rf s0] h (some (.int r.1)) r.2 := by
  intro hyp
  unfold b_M_reach_47 at hyp
  obtain ⟨h1, e2, hyp⟩ := Option.bind_eq_some_iff.mp hyp
  refine rt_st (pc1 := 19) (fun _ _ B => go_iast d_M_reach_47 e2 (go_iinc (v := (v1 + (1 : Int32))) (lv1 := [(1, .int (v1 + (1 : Int32))), (0, va_rf v0)]) 1 d_M_reach_48 rfl rfl (by decide) (by first | (simp [mj_s1, mj_s2, mj_rfc, mj_cti, mj_ctl]; done) | (simp [mj_s1, mj_s2, mj_rfc, mj_cti, mj_ctl]; decide)) (go_goto 19 d_M_reach_51 rfl B))) ?_
  refine rt_sub [1, 0] (lv1 := [(0, va_rf v0), (1, .int (v1 + (1 : Int32)))]) rfl ?_
  exact hk19 _ _ _ _ hyp
set_option maxHeartbeats 4000000 in
set_option maxRecDepth 200000 in
theorem p_M_reach_19 (F : Nat) {h0 : MH} : ∀ (n : Nat) (v0 : Option Nat) (v1 : Int32) (h : MH) (r : (Int32 × MH)), b_M_reach_19 F  n v0 v1 h = some r → Rt mi_M_reach 7 h0 19 [(0, va_rf v0), (1, .int v1)] [] h (some (.int r.1)) r.2 := by
  intro n
  induction n with
  | zero =>
    intro v0 v1 h r hyp
    cases hyp
  | succ n ih =>
    intro v0 v1 h r hyp
    unfold b_M_reach_19 at hyp
    refine rt_st (pc1 := 23) (fun _ _ B => go_iload_n 1 d_M_reach_19 rfl (go_sipush (v := (576 : Int32)) d_M_reach_20 (by decide) B)) ?_
    by_cases c1 : (576 : Int32) ≤ v1
    · replace hyp := (if_pos c1).symm.trans hyp
      refine rt_st (pc1 := 58) (fun _ _ B => go_icmp_ge_t 54 d_M_reach_23 rfl c1 (go_iconst (v := (0 : Int32)) d_M_reach_54 (by decide) (go_istore_n (lv1 := [(1, .int (0 : Int32)), (0, va_rf v0)]) d_M_reach_55 (by decide) (by first | (simp [mj_s1, mj_s2, mj_rfc, mj_cti, mj_ctl]; done) | (simp [mj_s1, mj_s2, mj_rfc, mj_cti, mj_ctl]; decide)) (go_iconst (v := (1 : Int32)) d_M_reach_56 (by decide) (go_istore_n (lv1 := [(2, .int (1 : Int32)), (1, .int (0 : Int32)), (0, va_rf v0)]) d_M_reach_57 (by decide) rfl B))))) ?_
      refine rt_sub [2, 1, 0] (lv1 := [(0, va_rf v0), (1, .int (0 : Int32)), (2, .int (1 : Int32))]) rfl ?_
      exact p_M_reach_58 F F _ _ _ _ r hyp
    · replace hyp := (if_neg c1).symm.trans hyp
      obtain ⟨x2, e3, hyp⟩ := Option.bind_eq_some_iff.mp hyp
      obtain ⟨x4, e5, hyp⟩ := Option.bind_eq_some_iff.mp hyp
      obtain ⟨x6, e7, hyp⟩ := Option.bind_eq_some_iff.mp hyp
      refine rt_st (pc1 := 39) (fun _ _ B => go_icmp_ge_f d_M_reach_23 rfl c1 (go_aload_n 0 d_M_reach_26 rfl (go_gfr d_M_reach_27 fd_11_23 w1012 e3 (go_iload_n 1 d_M_reach_30 rfl (go_iload_n 1 d_M_reach_31 rfl (go_aload_n 0 d_M_reach_32 rfl (go_gfr d_M_reach_33 fd_11_15 w1004 e5 (go_callS1 (st := [.int v1, .int v1, va_rf x2]) [va_rf x4] (t_M_node x4 h _ e7) mm_M_node (by decide) d_M_reach_36 w1255 w1256 rfl (Nat.le_of_ble_eq_true rfl) rfl B)))))))) ?_
      by_cases c8 : v1 = x6
      · replace hyp := (if_pos c8).symm.trans hyp
        refine rt_st (pc1 := 47) (fun _ _ B => go_icmp_ne_f d_M_reach_39 rfl c8 (go_iconst (v := (1 : Int32)) d_M_reach_42 (by decide) (go_goto 47 d_M_reach_43 rfl B))) ?_
        exact p_M_reach_47 F (b_M_reach_19 F n) (fun a0 a1 a2 r hyp => ih a0 a1 a2 r hyp) _ _ _ _ _ _ r hyp
      · replace hyp := (if_neg c8).symm.trans hyp
        refine rt_st (pc1 := 47) (fun _ _ B => go_icmp_ne_t 46 d_M_reach_39 rfl c8 (go_iconst (v := (0 : Int32)) d_M_reach_46 (by decide) B)) ?_
        exact p_M_reach_47 F (b_M_reach_19 F n) (fun a0 a1 a2 r hyp => ih a0 a1 a2 r hyp) _ _ _ _ _ _ r hyp
set_option maxHeartbeats 4000000 in
set_option maxRecDepth 200000 in
theorem t_M_reach (F : Nat) (v0 : Option Nat) (h : MH) (r : (Int32 × MH)) (hyp : f_M_reach F v0 h = some r) : Mt mi_M_reach 7 [va_rf v0] h (some (.int r.1)) r.2 := by
  refine Mt.rt (lv := [(0, va_rf v0)]) (by decide +kernel) (by simp [lv_args, mj_rfc, mj_cti, mj_ctl]) (by simp [mj_rfc, mj_cti, mj_ctl]) ?_
  unfold f_M_reach at hyp
  obtain ⟨h1, e2, hyp⟩ := Option.bind_eq_some_iff.mp hyp
  obtain ⟨x3, e4, hyp⟩ := Option.bind_eq_some_iff.mp hyp
  obtain ⟨x5, e6, hyp⟩ := Option.bind_eq_some_iff.mp hyp
  refine rt_st (pc1 := 11) (fun _ _ B => go_aload_n 0 d_M_reach_0 rfl (go_iconst (v := (0 : Int32)) d_M_reach_1 (by decide) (go_pfi d_M_reach_2 fd_11_0 w989 (fun q => by cases q) e2 (go_aload_n 0 d_M_reach_5 rfl (go_gfr d_M_reach_6 fd_11_15 w1004 e4 (go_iconst (v := (0 : Int32)) d_M_reach_9 (by decide) (go_iald d_M_reach_10 e6 B))))))) ?_
  by_cases c7 : x5 = 0
  · replace hyp := (if_pos c7).symm.trans hyp
    refine rt_st (pc1 := 16) (fun _ _ B => go_if_ne_f d_M_reach_11 rfl c7 (go_ldc (v := (-1000002 : Int32)) d_M_reach_14 w1164 B)) ?_
    exact rt_eqW Value.int hyp (rt_int d_M_reach_16 rfl)
  · replace hyp := (if_neg c7).symm.trans hyp
    refine rt_st (pc1 := 19) (fun _ _ B => go_if_ne_t 17 d_M_reach_11 rfl c7 (go_iconst (v := (0 : Int32)) d_M_reach_17 (by decide) (go_istore_n (lv1 := [(1, .int (0 : Int32)), (0, va_rf v0)]) d_M_reach_18 (by decide) (by first | (simp [mj_s1, mj_s2, mj_rfc, mj_cti, mj_ctl]; done) | (simp [mj_s1, mj_s2, mj_rfc, mj_cti, mj_ctl]; decide)) B))) ?_
    refine rt_sub [1, 0] (lv1 := [(0, va_rf v0), (1, .int (0 : Int32))]) rfl ?_
    exact p_M_reach_19 F F _ _ _ r hyp
