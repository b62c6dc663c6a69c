/-! WideTurnModel.readsHead()V -/
def b_M_readsHead_147 (F : Nat) : (Option Nat) → (MH) → (Option MH) := fun v0 h => 
  Option.bind (onc h v0 11 (f_M_wants F v0 (3 : Int32) (59 : Int32) h)) fun h1 =>
  Option.bind (onc h1 v0 11 (f_M_wants F v0 (1 : Int32) (98 : Int32) h1)) fun h3 =>
  Option.bind (gfr h3 v0 [11] 14) fun x5 =>
  Option.bind (onc h3 v0 11 (f_M_number F v0 (0 : Int32) (23 : Int32) (0 : Int32) h3)) fun x7 =>
  Option.bind (ast x7.2 x5 0 (14 : Int32) x7.1) fun h9 =>
  Option.bind (onc h9 v0 11 (f_M_wants F v0 (3 : Int32) (44 : Int32) h9)) fun h11 =>
  Option.bind (gfr h11 v0 [11] 14) fun x13 =>
  Option.bind (onc h11 v0 11 (f_M_number F v0 (0 : Int32) (7 : Int32) (0 : Int32) h11)) fun x15 =>
  Option.bind (ast x15.2 x13 0 (15 : Int32) x15.1) fun h17 =>
  Option.bind (onc h17 v0 11 (f_M_wants F v0 (3 : Int32) (59 : Int32) h17)) fun h19 =>
  some h19
def b_M_readsHead_138 (F : Nat) (k77 : (Option Nat) → Int32 → MH → (Option MH)) : (Option Nat) → (Int32) → (Option Nat) → (Int32) → (Int32) → (MH) → (Option MH) := fun v0 v1 s0 s1 s2 h => 
  Option.bind (onc h s0 11 (f_M_wants F s0 s1 s2 h)) fun h1 =>
  k77 v0 (v1 + (1 : Int32)) h1
def b_M_readsHead_137 (F : Nat) (k77 : (Option Nat) → Int32 → MH → (Option MH)) : (Option Nat) → (Int32) → (Option Nat) → (Int32) → (MH) → (Option MH) := fun v0 v1 s0 s1 h => 
  b_M_readsHead_138 F k77 v0 v1 s0 s1 (-1 : Int32) h
def b_M_readsHead_77 (F : Nat) : Nat → (Option Nat) → (Int32) → (MH) → (Option MH)
  | 0 => fun _ _ _ => none
  | n + 1 => fun v0 v1 h => 
    if (24 : Int32) ≤ v1 then
      b_M_readsHead_147 F v0 h
    else
      Option.bind (onc h v0 11 (f_M_isWell v0 h)) fun x2 =>
      if x2 = 0 then
        b_M_readsHead_147 F v0 h
      else
        Option.bind (gfr h v0 [11] 14) fun x5 =>
        Option.bind (gfi h v0 [11] 6) fun x7 =>
        Option.bind (ast h x5 0 ((18 : Int32) + v1) (x7 - (97 : Int32))) fun h9 =>
        Option.bind (gfi h9 v0 [11] 4) fun x11 =>
        if x11 = (1 : Int32) then
          Option.bind (gfi h9 v0 [11] 6) fun x14 =>
          if (f_M_in x14 (97 : Int32) (106 : Int32)) = 0 then
            b_M_readsHead_137 F (b_M_readsHead_77 F n) v0 v1 v0 (1 : Int32) h9
          else
            Option.bind (gfi h9 v0 [11] 6) fun x17 =>
            b_M_readsHead_138 F (b_M_readsHead_77 F n) v0 v1 v0 (1 : Int32) x17 h9
        else
          b_M_readsHead_137 F (b_M_readsHead_77 F n) v0 v1 v0 (1 : Int32) h9
def f_M_readsHead (F : Nat) (v0 : Option Nat) (h : MH) : Option MH :=
  Option.bind (onc h v0 11 (f_M_wants F v0 (1 : Int32) (119 : Int32) h)) fun h1 =>
  Option.bind (gfr h1 v0 [11] 14) fun x3 =>
  Option.bind (onc h1 v0 11 (f_M_number F v0 (0 : Int32) (8 : Int32) (0 : Int32) h1)) fun x5 =>
  Option.bind (ast x5.2 x3 0 (1 : Int32) x5.1) fun h7 =>
  Option.bind (onc h7 v0 11 (f_M_wants F v0 (3 : Int32) (44 : Int32) h7)) fun h9 =>
  Option.bind (gfr h9 v0 [11] 14) fun x11 =>
  Option.bind (onc h9 v0 11 (f_M_number F v0 (1 : Int32) (5 : Int32) (0 : Int32) h9)) fun x13 =>
  Option.bind (ast x13.2 x11 0 (2 : Int32) x13.1) fun h15 =>
  Option.bind (onc h15 v0 11 (f_M_wants F v0 (3 : Int32) (44 : Int32) h15)) fun h17 =>
  Option.bind (gfr h17 v0 [11] 14) fun x19 =>
  Option.bind (onc h17 v0 11 (f_M_number F v0 (0 : Int32) (3 : Int32) (0 : Int32) h17)) fun x21 =>
  Option.bind (ast x21.2 x19 0 (3 : Int32) x21.1) fun h23 =>
  Option.bind (onc h23 v0 11 (f_M_wants F v0 (3 : Int32) (59 : Int32) h23)) fun h25 =>
  Option.bind (onc h25 v0 11 (f_M_wants F v0 (1 : Int32) (100 : Int32) h25)) fun h27 =>
  b_M_readsHead_77 F F v0 (0 : Int32) h27
set_option maxHeartbeats 4000000 in
set_option maxRecDepth 200000 in
theorem p_M_readsHead_147 (F : Nat) {h0 : MH} (v0 : Option Nat) (h : MH) (r : MH) : b_M_readsHead_147 F  v0 h = some r → Rt mi_M_readsHead 4 h0 147 [(0, va_rf v0)] [] h none r := by
  intro hyp
  unfold b_M_readsHead_147 at hyp
  obtain ⟨h1, e2, hyp⟩ := Option.bind_eq_some_iff.mp hyp
  obtain ⟨h3, e4, hyp⟩ := Option.bind_eq_some_iff.mp hyp
  obtain ⟨x5, e6, hyp⟩ := Option.bind_eq_some_iff.mp hyp
  obtain ⟨x7, e8, hyp⟩ := Option.bind_eq_some_iff.mp hyp
  obtain ⟨h9, e10, hyp⟩ := Option.bind_eq_some_iff.mp hyp
  obtain ⟨h11, e12, hyp⟩ := Option.bind_eq_some_iff.mp hyp
  obtain ⟨x13, e14, hyp⟩ := Option.bind_eq_some_iff.mp hyp
  obtain ⟨x15, e16, hyp⟩ := Option.bind_eq_some_iff.mp hyp
  obtain ⟨h17, e18, hyp⟩ := Option.bind_eq_some_iff.mp hyp
  obtain ⟨h19, e20, hyp⟩ := Option.bind_eq_some_iff.mp hyp
  refine rt_st (pc1 := 205) (fun _ _ B => go_aload_n 0 d_M_readsHead_147 rfl (go_iconst (v := (3 : Int32)) d_M_readsHead_148 (by decide) (go_bipush (v := (59 : Int32)) d_M_readsHead_149 (by decide) (go_callV0 (q := q_11) (st := []) [.int (3 : Int32), .int (59 : Int32)] (t_M_wants F v0 (3 : Int32) (59 : Int32) h _ (onc_spec e2).2) mm_M_wants (by decide) d_M_readsHead_151 (onc_spec e2).1 rfl rfl w1126 w1128 w35 rfl (Nat.le_of_ble_eq_true rfl) rfl (go_aload_n 0 d_M_readsHead_154 rfl (go_iconst (v := (1 : Int32)) d_M_readsHead_155 (by decide) (go_bipush (v := (98 : Int32)) d_M_readsHead_156 (by decide) (go_callV0 (q := q_11) (st := []) [.int (1 : Int32), .int (98 : Int32)] (t_M_wants F v0 (1 : Int32) (98 : Int32) h1 _ (onc_spec e4).2) mm_M_wants (by decide) d_M_readsHead_158 (onc_spec e4).1 rfl rfl w1126 w1128 w35 rfl (Nat.le_of_ble_eq_true rfl) rfl (go_aload_n 0 d_M_readsHead_161 rfl (go_gfr d_M_readsHead_162 fd_11_14 w1003 e6 (go_bipush (v := (14 : Int32)) d_M_readsHead_165 (by decide) (go_aload_n 0 d_M_readsHead_167 rfl (go_iconst (v := (0 : Int32)) d_M_readsHead_168 (by decide) (go_bipush (v := (23 : Int32)) d_M_readsHead_169 (by decide) (go_iconst (v := (0 : Int32)) d_M_readsHead_171 (by decide) (go_callV1 (q := q_11) (st := [.int (14 : Int32), va_rf x5]) [.int (0 : Int32), .int (23 : Int32), .int (0 : Int32)] (t_M_number F v0 (0 : Int32) (23 : Int32) (0 : Int32) h3 _ (onc_spec e8).2) mm_M_number (by decide) d_M_readsHead_172 (onc_spec e8).1 rfl rfl w1138 w1140 w38 rfl (Nat.le_of_ble_eq_true rfl) rfl (go_iast d_M_readsHead_175 e10 (go_aload_n 0 d_M_readsHead_176 rfl (go_iconst (v := (3 : Int32)) d_M_readsHead_177 (by decide) (go_bipush (v := (44 : Int32)) d_M_readsHead_178 (by decide) (go_callV0 (q := q_11) (st := []) [.int (3 : Int32), .int (44 : Int32)] (t_M_wants F v0 (3 : Int32) (44 : Int32) h9 _ (onc_spec e12).2) mm_M_wants (by decide) d_M_readsHead_180 (onc_spec e12).1 rfl rfl w1126 w1128 w35 rfl (Nat.le_of_ble_eq_true rfl) rfl (go_aload_n 0 d_M_readsHead_183 rfl (go_gfr d_M_readsHead_184 fd_11_14 w1003 e14 (go_bipush (v := (15 : Int32)) d_M_readsHead_187 (by decide) (go_aload_n 0 d_M_readsHead_189 rfl (go_iconst (v := (0 : Int32)) d_M_readsHead_190 (by decide) (go_bipush (v := (7 : Int32)) d_M_readsHead_191 (by decide) (go_iconst (v := (0 : Int32)) d_M_readsHead_193 (by decide) (go_callV1 (q := q_11) (st := [.int (15 : Int32), va_rf x13]) [.int (0 : Int32), .int (7 : Int32), .int (0 : Int32)] (t_M_number F v0 (0 : Int32) (7 : Int32) (0 : Int32) h11 _ (onc_spec e16).2) mm_M_number (by decide) d_M_readsHead_194 (onc_spec e16).1 rfl rfl w1138 w1140 w38 rfl (Nat.le_of_ble_eq_true rfl) rfl (go_iast d_M_readsHead_197 e18 (go_aload_n 0 d_M_readsHead_198 rfl (go_iconst (v := (3 : Int32)) d_M_readsHead_199 (by decide) (go_bipush (v := (59 : Int32)) d_M_readsHead_200 (by decide) (go_callV0 (q := q_11) (st := []) [.int (3 : Int32), .int (59 : Int32)] (t_M_wants F v0 (3 : Int32) (59 : Int32) h17 _ (onc_spec e20).2) mm_M_wants (by decide) d_M_readsHead_202 (onc_spec e20).1 rfl rfl w1126 w1128 w35 rfl (Nat.le_of_ble_eq_true rfl) rfl B)))))))))))))))))))))))))))))))))) ?_
  exact rt_eq0 hyp (rt_void d_M_readsHead_205 rfl)
set_option maxHeartbeats 4000000 in
set_option maxRecDepth 200000 in
theorem p_M_readsHead_138 (F : Nat) {h0 : MH} (k77 : (Option Nat) → Int32 → MH → (Option MH)) (hk77 : ∀ (v0 : Option Nat) (v1 : Int32) (h : MH) (r : MH), k77 v0 v1 h = some r → Rt mi_M_readsHead 4 h0 77 [(0, va_rf v0), (1, .int v1)] [] h none r) (v0 : Option Nat) (v1 : Int32) (s0 : Option Nat) (s1 : Int32) (s2 : Int32) (h : MH) (r : MH) : b_M_readsHead_138 F k77  v0 v1 s0 s1 s2 h = some r → Rt mi_M_readsHead 4 h0 138 [(0, va_rf v0), (1, .int v1)] [.int s2, .int s1, va_rf s0] h none r := by
  intro hyp
  unfold b_M_readsHead_138 at hyp
  obtain ⟨h1, e2, hyp⟩ := Option.bind_eq_some_iff.mp hyp
  refine rt_st (pc1 := 77) (fun _ _ B => go_callV0 (q := q_11) (st := []) [.int s1, .int s2] (t_M_wants F s0 s1 s2 h _ (onc_spec e2).2) mm_M_wants (by decide) d_M_readsHead_138 (onc_spec e2).1 rfl rfl w1126 w1128 w35 rfl (Nat.le_of_ble_eq_true rfl) rfl (go_iinc (v := (v1 + (1 : Int32))) (lv1 := [(1, .int (v1 + (1 : Int32))), (0, va_rf v0)]) 1 d_M_readsHead_141 rfl rfl (by decide) (by first | (simp [mj_s1, mj_s2, mj_rfc, mj_cti, mj_ctl]; done) | (simp [mj_s1, mj_s2, mj_rfc, mj_cti, mj_ctl]; decide)) (go_goto 77 d_M_readsHead_144 rfl B))) ?_
  refine rt_sub [1, 0] (lv1 := [(0, va_rf v0), (1, .int (v1 + (1 : Int32)))]) rfl ?_
  exact hk77 _ _ _ _ hyp
set_option maxHeartbeats 4000000 in
set_option maxRecDepth 200000 in
theorem p_M_readsHead_137 (F : Nat) {h0 : MH} (k77 : (Option Nat) → Int32 → MH → (Option MH)) (hk77 : ∀ (v0 : Option Nat) (v1 : Int32) (h : MH) (r : MH), k77 v0 v1 h = some r → Rt mi_M_readsHead 4 h0 77 [(0, va_rf v0), (1, .int v1)] [] h none r) (v0 : Option Nat) (v1 : Int32) (s0 : Option Nat) (s1 : Int32) (h : MH) (r : MH) : b_M_readsHead_137 F k77  v0 v1 s0 s1 h = some r → Rt mi_M_readsHead 4 h0 137 [(0, va_rf v0), (1, .int v1)] [.int s1, va_rf s0] h none r := by
  intro hyp
  unfold b_M_readsHead_137 at hyp
  refine rt_st (pc1 := 138) (fun _ _ B => go_iconst (v := (-1 : Int32)) d_M_readsHead_137 (by decide) B) ?_
  exact p_M_readsHead_138 F k77 hk77 _ _ _ _ _ _ r hyp
set_option maxHeartbeats 4000000 in
set_option maxRecDepth 200000 in
theorem p_M_readsHead_77 (F : Nat) {h0 : MH} : ∀ (n : Nat) (v0 : Option Nat) (v1 : Int32) (h : MH) (r : MH), b_M_readsHead_77 F  n v0 v1 h = some r → Rt mi_M_readsHead 4 h0 77 [(0, va_rf v0), (1, .int v1)] [] h none r := by
  intro n
  induction n with
  | zero =>
    intro v0 v1 h r hyp
    cases hyp
  | succ n ih =>
    intro v0 v1 h r hyp
    unfold b_M_readsHead_77 at hyp
    refine rt_st (pc1 := 80) (fun _ _ B => go_iload_n 1 d_M_readsHead_77 rfl (go_bipush (v := (24 : Int32)) d_M_readsHead_78 (by decide) B)) ?_
    by_cases c1 : (24 : Int32) ≤ v1
    · replace hyp := (if_pos c1).symm.trans hyp
      refine rt_st (pc1 := 147) (fun _ _ B => go_icmp_ge_t 147 d_M_readsHead_80 rfl c1 B) ?_
      refine rt_sub [0] (lv1 := [(0, va_rf v0)]) rfl ?_
      exact p_M_readsHead_147 F _ _ r hyp
    · replace hyp := (if_neg c1).symm.trans hyp
      obtain ⟨x2, e3, hyp⟩ := Option.bind_eq_some_iff.mp hyp
      refine rt_st (pc1 := 87) (fun _ _ B => go_icmp_ge_f d_M_readsHead_80 rfl c1 (go_aload_n 0 d_M_readsHead_83 rfl (go_callV1 (q := q_11) (st := []) [] (t_M_isWell v0 h _ (onc_spec e3).2) mm_M_isWell (by decide) d_M_readsHead_84 (onc_spec e3).1 rfl rfl w1134 w1136 w37 rfl (Nat.le_of_ble_eq_true rfl) rfl B))) ?_
      by_cases c4 : x2 = 0
      · replace hyp := (if_pos c4).symm.trans hyp
        refine rt_st (pc1 := 147) (fun _ _ B => go_if_eq_t 147 d_M_readsHead_87 rfl c4 B) ?_
        refine rt_sub [0] (lv1 := [(0, va_rf v0)]) rfl ?_
        exact p_M_readsHead_147 F _ _ r hyp
      · replace hyp := (if_neg c4).symm.trans hyp
        obtain ⟨x5, e6, hyp⟩ := Option.bind_eq_some_iff.mp hyp
        obtain ⟨x7, e8, hyp⟩ := Option.bind_eq_some_iff.mp hyp
        obtain ⟨h9, e10, hyp⟩ := Option.bind_eq_some_iff.mp hyp
        obtain ⟨x11, e12, hyp⟩ := Option.bind_eq_some_iff.mp hyp
        refine rt_st (pc1 := 113) (fun _ _ B => go_if_eq_f d_M_readsHead_87 rfl c4 (go_aload_n 0 d_M_readsHead_90 rfl (go_gfr d_M_readsHead_91 fd_11_14 w1003 e6 (go_bipush (v := (18 : Int32)) d_M_readsHead_94 (by decide) (go_iload_n 1 d_M_readsHead_96 rfl (go_iadd d_M_readsHead_97 (go_aload_n 0 d_M_readsHead_98 rfl (go_gfi d_M_readsHead_99 fd_11_6 w995 e8 (go_bipush (v := (97 : Int32)) d_M_readsHead_102 (by decide) (go_isub d_M_readsHead_104 (go_iast d_M_readsHead_105 e10 (go_aload_n 0 d_M_readsHead_106 rfl (go_iconst (v := (1 : Int32)) d_M_readsHead_107 (by decide) (go_aload_n 0 d_M_readsHead_108 rfl (go_gfi d_M_readsHead_109 fd_11_4 w993 e12 (go_iconst (v := (1 : Int32)) d_M_readsHead_112 (by decide) B)))))))))))))))) ?_
        by_cases c13 : x11 = (1 : Int32)
        · replace hyp := (if_pos c13).symm.trans hyp
          obtain ⟨x14, e15, hyp⟩ := Option.bind_eq_some_iff.mp hyp
          refine rt_st (pc1 := 127) (fun _ _ B => go_icmp_ne_f d_M_readsHead_113 rfl c13 (go_aload_n 0 d_M_readsHead_116 rfl (go_gfi d_M_readsHead_117 fd_11_6 w995 e15 (go_bipush (v := (97 : Int32)) d_M_readsHead_120 (by decide) (go_bipush (v := (106 : Int32)) d_M_readsHead_122 (by decide) (go_callS1 (st := [.int (1 : Int32), va_rf v0]) [.int x14, .int (97 : Int32), .int (106 : Int32)] (t_M_in x14 (97 : Int32) (106 : Int32) h9) mm_M_in (by decide) d_M_readsHead_124 w1073 w1074 rfl (Nat.le_of_ble_eq_true rfl) rfl B)))))) ?_
          by_cases c16 : (f_M_in x14 (97 : Int32) (106 : Int32)) = 0
          · replace hyp := (if_pos c16).symm.trans hyp
            refine rt_st (pc1 := 137) (fun _ _ B => go_if_eq_t 137 d_M_readsHead_127 rfl c16 B) ?_
            exact p_M_readsHead_137 F (b_M_readsHead_77 F n) (fun a0 a1 a2 r hyp => ih a0 a1 a2 r hyp) _ _ _ _ _ r hyp
          · replace hyp := (if_neg c16).symm.trans hyp
            obtain ⟨x17, e18, hyp⟩ := Option.bind_eq_some_iff.mp hyp
            refine rt_st (pc1 := 138) (fun _ _ B => go_if_eq_f d_M_readsHead_127 rfl c16 (go_aload_n 0 d_M_readsHead_130 rfl (go_gfi d_M_readsHead_131 fd_11_6 w995 e18 (go_goto 138 d_M_readsHead_134 rfl B)))) ?_
            exact p_M_readsHead_138 F (b_M_readsHead_77 F n) (fun a0 a1 a2 r hyp => ih a0 a1 a2 r hyp) _ _ _ _ _ _ r hyp
        · replace hyp := (if_neg c13).symm.trans hyp
          refine rt_st (pc1 := 137) (fun _ _ B => go_icmp_ne_t 137 d_M_readsHead_113 rfl c13 B) ?_
          exact p_M_readsHead_137 F (b_M_readsHead_77 F n) (fun a0 a1 a2 r hyp => ih a0 a1 a2 r hyp) _ _ _ _ _ r hyp
set_option maxHeartbeats 4000000 in
set_option maxRecDepth 200000 in
theorem t_M_readsHead (F : Nat) (v0 : Option Nat) (h : MH) (r : MH) (hyp : f_M_readsHead F v0 h = some r) : Mt mi_M_readsHead 4 [va_rf v0] h none r := by
  refine Mt.rt (lv := [(0, va_rf v0)]) (by decide +kernel) (by simp [lv_args, mj_rfc, mj_cti, mj_ctl]) (by simp [mj_rfc, mj_cti, mj_ctl]) ?_
  unfold f_M_readsHead at hyp
  obtain ⟨h1, e2, hyp⟩ := Option.bind_eq_some_iff.mp hyp
  obtain ⟨x3, e4, hyp⟩ := Option.bind_eq_some_iff.mp hyp
  obtain ⟨x5, e6, hyp⟩ := Option.bind_eq_some_iff.mp hyp
  obtain ⟨h7, e8, hyp⟩ := Option.bind_eq_some_iff.mp hyp
  obtain ⟨h9, e10, hyp⟩ := Option.bind_eq_some_iff.mp hyp
  obtain ⟨x11, e12, hyp⟩ := Option.bind_eq_some_iff.mp hyp
  obtain ⟨x13, e14, hyp⟩ := Option.bind_eq_some_iff.mp hyp
  obtain ⟨h15, e16, hyp⟩ := Option.bind_eq_some_iff.mp hyp
  obtain ⟨h17, e18, hyp⟩ := Option.bind_eq_some_iff.mp hyp
  obtain ⟨x19, e20, hyp⟩ := Option.bind_eq_some_iff.mp hyp
  obtain ⟨x21, e22, hyp⟩ := Option.bind_eq_some_iff.mp hyp
  obtain ⟨h23, e24, hyp⟩ := Option.bind_eq_some_iff.mp hyp
  refine rt_st (pc1 := 63) (fun _ _ B => go_aload_n 0 d_M_readsHead_0 rfl (go_iconst (v := (1 : Int32)) d_M_readsHead_1 (by decide) (go_bipush (v := (119 : Int32)) d_M_readsHead_2 (by decide) (go_callV0 (q := q_11) (st := []) [.int (1 : Int32), .int (119 : Int32)] (t_M_wants F v0 (1 : Int32) (119 : Int32) h _ (onc_spec e2).2) mm_M_wants (by decide) d_M_readsHead_4 (onc_spec e2).1 rfl rfl w1126 w1128 w35 rfl (Nat.le_of_ble_eq_true rfl) rfl (go_aload_n 0 d_M_readsHead_7 rfl (go_gfr d_M_readsHead_8 fd_11_14 w1003 e4 (go_iconst (v := (1 : Int32)) d_M_readsHead_11 (by decide) (go_aload_n 0 d_M_readsHead_12 rfl (go_iconst (v := (0 : Int32)) d_M_readsHead_13 (by decide) (go_bipush (v := (8 : Int32)) d_M_readsHead_14 (by decide) (go_iconst (v := (0 : Int32)) d_M_readsHead_16 (by decide) (go_callV1 (q := q_11) (st := [.int (1 : Int32), va_rf x3]) [.int (0 : Int32), .int (8 : Int32), .int (0 : Int32)] (t_M_number F v0 (0 : Int32) (8 : Int32) (0 : Int32) h1 _ (onc_spec e6).2) mm_M_number (by decide) d_M_readsHead_17 (onc_spec e6).1 rfl rfl w1138 w1140 w38 rfl (Nat.le_of_ble_eq_true rfl) rfl (go_iast d_M_readsHead_20 e8 (go_aload_n 0 d_M_readsHead_21 rfl (go_iconst (v := (3 : Int32)) d_M_readsHead_22 (by decide) (go_bipush (v := (44 : Int32)) d_M_readsHead_23 (by decide) (go_callV0 (q := q_11) (st := []) [.int (3 : Int32), .int (44 : Int32)] (t_M_wants F v0 (3 : Int32) (44 : Int32) h7 _ (onc_spec e10).2) mm_M_wants (by decide) d_M_readsHead_25 (onc_spec e10).1 rfl rfl w1126 w1128 w35 rfl (Nat.le_of_ble_eq_true rfl) rfl (go_aload_n 0 d_M_readsHead_28 rfl (go_gfr d_M_readsHead_29 fd_11_14 w1003 e12 (go_iconst (v := (2 : Int32)) d_M_readsHead_32 (by decide) (go_aload_n 0 d_M_readsHead_33 rfl (go_iconst (v := (1 : Int32)) d_M_readsHead_34 (by decide) (go_iconst (v := (5 : Int32)) d_M_readsHead_35 (by decide) (go_iconst (v := (0 : Int32)) d_M_readsHead_36 (by decide) (go_callV1 (q := q_11) (st := [.int (2 : Int32), va_rf x11]) [.int (1 : Int32), .int (5 : Int32), .int (0 : Int32)] (t_M_number F v0 (1 : Int32) (5 : Int32) (0 : Int32) h9 _ (onc_spec e14).2) mm_M_number (by decide) d_M_readsHead_37 (onc_spec e14).1 rfl rfl w1138 w1140 w38 rfl (Nat.le_of_ble_eq_true rfl) rfl (go_iast d_M_readsHead_40 e16 (go_aload_n 0 d_M_readsHead_41 rfl (go_iconst (v := (3 : Int32)) d_M_readsHead_42 (by decide) (go_bipush (v := (44 : Int32)) d_M_readsHead_43 (by decide) (go_callV0 (q := q_11) (st := []) [.int (3 : Int32), .int (44 : Int32)] (t_M_wants F v0 (3 : Int32) (44 : Int32) h15 _ (onc_spec e18).2) mm_M_wants (by decide) d_M_readsHead_45 (onc_spec e18).1 rfl rfl w1126 w1128 w35 rfl (Nat.le_of_ble_eq_true rfl) rfl (go_aload_n 0 d_M_readsHead_48 rfl (go_gfr d_M_readsHead_49 fd_11_14 w1003 e20 (go_iconst (v := (3 : Int32)) d_M_readsHead_52 (by decide) (go_aload_n 0 d_M_readsHead_53 rfl (go_iconst (v := (0 : Int32)) d_M_readsHead_54 (by decide) (go_iconst (v := (3 : Int32)) d_M_readsHead_55 (by decide) (go_iconst (v := (0 : Int32)) d_M_readsHead_56 (by decide) (go_callV1 (q := q_11) (st := [.int (3 : Int32), va_rf x19]) [.int (0 : Int32), .int (3 : Int32), .int (0 : Int32)] (t_M_number F v0 (0 : Int32) (3 : Int32) (0 : Int32) h17 _ (onc_spec e22).2) mm_M_number (by decide) d_M_readsHead_57 (onc_spec e22).1 rfl rfl w1138 w1140 w38 rfl (Nat.le_of_ble_eq_true rfl) rfl (go_iast d_M_readsHead_60 e24 (go_aload_n 0 d_M_readsHead_61 rfl (go_iconst (v := (3 : Int32)) d_M_readsHead_62 (by decide) B))))))))))))))))))))))))))))))))))))))))) ?_
  obtain ⟨h25, e26, hyp⟩ := Option.bind_eq_some_iff.mp hyp
  obtain ⟨h27, e28, hyp⟩ := Option.bind_eq_some_iff.mp hyp
  refine rt_st (pc1 := 77) (fun _ _ B => go_bipush (v := (59 : Int32)) d_M_readsHead_63 (by decide) (go_callV0 (q := q_11) (st := []) [.int (3 : Int32), .int (59 : Int32)] (t_M_wants F v0 (3 : Int32) (59 : Int32) h23 _ (onc_spec e26).2) mm_M_wants (by decide) d_M_readsHead_65 (onc_spec e26).1 rfl rfl w1126 w1128 w35 rfl (Nat.le_of_ble_eq_true rfl) rfl (go_aload_n 0 d_M_readsHead_68 rfl (go_iconst (v := (1 : Int32)) d_M_readsHead_69 (by decide) (go_bipush (v := (100 : Int32)) d_M_readsHead_70 (by decide) (go_callV0 (q := q_11) (st := []) [.int (1 : Int32), .int (100 : Int32)] (t_M_wants F v0 (1 : Int32) (100 : Int32) h25 _ (onc_spec e28).2) mm_M_wants (by decide) d_M_readsHead_72 (onc_spec e28).1 rfl rfl w1126 w1128 w35 rfl (Nat.le_of_ble_eq_true rfl) rfl (go_iconst (v := (0 : Int32)) d_M_readsHead_75 (by decide) (go_istore_n (lv1 := [(1, .int (0 : Int32)), (0, va_rf v0)]) d_M_readsHead_76 (by decide) (by first | (simp [mj_s1, mj_s2, mj_rfc, mj_cti, mj_ctl]; done) | (simp [mj_s1, mj_s2, mj_rfc, mj_cti, mj_ctl]; decide)) B)))))))) ?_
  refine rt_sub [1, 0] (lv1 := [(0, va_rf v0), (1, .int (0 : Int32))]) rfl ?_
  exact p_M_readsHead_77 F F _ _ _ r hyp
/-! WideTurnModel.ones(I)I -/
def b_M_ones_4 (F : Nat) : Nat → (Int32) → (Int32) → (Int32) → (Option (Int32))
  | 0 => fun _ _ _ => none
  | n + 1 => fun v0 v1 v2 => 
    if (24 : Int32) ≤ v2 then
      some v1
    else
      (b_M_ones_4 F n) v0 (v1 + ((v0 >>> (v2 &&& 31)) &&& (1 : Int32))) (v2 + (1 : Int32))
def f_M_ones (F : Nat) (v0 : Int32) : Option (Int32) :=
  b_M_ones_4 F F v0 (0 : Int32) (0 : Int32)
set_option maxHeartbeats 4000000 in
set_option maxRecDepth 200000 in
theorem p_M_ones_4 (F : Nat) (h : MH) {h0 : MH} : ∀ (n : Nat) (v0 : Int32) (v1 : Int32) (v2 : Int32) (r : (Int32)), b_M_ones_4 F  n v0 v1 v2 = some r → Rt mi_M_ones 1 h0 4 [(0, .int v0), (1, .int v1), (2, .int v2)] [] h (some (.int r)) h := by
  intro n
  induction n with
  | zero =>
    intro v0 v1 v2 r hyp
    cases hyp
  | succ n ih =>
    intro v0 v1 v2 r hyp
    unfold b_M_ones_4 at hyp
    refine rt_st (pc1 := 7) (fun _ _ B => go_iload_n 2 d_M_ones_4 rfl (go_bipush (v := (24 : Int32)) d_M_ones_5 (by decide) B)) ?_
    by_cases c1 : (24 : Int32) ≤ v2
    · replace hyp := (if_pos c1).symm.trans hyp
      refine rt_st (pc1 := 25) (fun _ _ B => go_icmp_ge_t 24 d_M_ones_7 rfl c1 (go_iload_n 1 d_M_ones_24 rfl B)) ?_
      exact rt_eqR Value.int hyp (rt_int d_M_ones_25 rfl)
    · replace hyp := (if_neg c1).symm.trans hyp
      refine rt_st (pc1 := 4) (fun _ _ B => go_icmp_ge_f d_M_ones_7 rfl c1 (go_iload_n 1 d_M_ones_10 rfl (go_iload_n 0 d_M_ones_11 rfl (go_iload_n 2 d_M_ones_12 rfl (go_ishr d_M_ones_13 (go_iconst (v := (1 : Int32)) d_M_ones_14 (by decide) (go_iand d_M_ones_15 (go_iadd d_M_ones_16 (go_istore_n (lv1 := [(1, .int (v1 + ((v0 >>> (v2 &&& 31)) &&& (1 : Int32)))), (0, .int v0), (2, .int v2)]) d_M_ones_17 (by decide) rfl (go_iinc (v := (v2 + (1 : Int32))) (lv1 := [(2, .int (v2 + (1 : Int32))), (1, .int (v1 + ((v0 >>> (v2 &&& 31)) &&& (1 : Int32)))), (0, .int v0)]) 2 d_M_ones_18 rfl rfl (by decide) rfl (go_goto 4 d_M_ones_21 rfl B))))))))))) ?_
      refine rt_sub [2, 1, 0] (lv1 := [(0, .int v0), (1, .int (v1 + ((v0 >>> (v2 &&& 31)) &&& (1 : Int32)))), (2, .int (v2 + (1 : Int32)))]) rfl ?_
      exact ih _ _ _ _ hyp
set_option maxHeartbeats 4000000 in
set_option maxRecDepth 200000 in
theorem t_M_ones (F : Nat) (v0 : Int32) (h : MH) (r : (Int32)) (hyp : f_M_ones F v0 = some r) : Mt mi_M_ones 1 [.int v0] h (some (.int r)) h := by
  refine Mt.rt (lv := [(0, .int v0)]) (by decide +kernel) (by simp [lv_args, mj_rfc, mj_cti, mj_ctl]) (by simp [mj_rfc, mj_cti, mj_ctl]) ?_
  unfold f_M_ones at hyp
  refine rt_st (pc1 := 4) (fun _ _ B => go_iconst (v := (0 : Int32)) d_M_ones_0 (by decide) (go_istore_n (lv1 := [(1, .int (0 : Int32)), (0, .int v0)]) d_M_ones_1 (by decide) rfl (go_iconst (v := (0 : Int32)) d_M_ones_2 (by decide) (go_istore_n (lv1 := [(2, .int (0 : Int32)), (1, .int (0 : Int32)), (0, .int v0)]) d_M_ones_3 (by decide) rfl B)))) ?_
  refine rt_sub [2, 1, 0] (lv1 := [(0, .int v0), (1, .int (0 : Int32)), (2, .int (0 : Int32))]) rfl ?_
  exact p_M_ones_4 F h F _ _ _ r hyp
/-! WideTurnModel.readsRest()V -/
def b_M_readsRest_258 (F : Nat) (k0 : (Option Nat) → MH → (Option MH)) : (Option Nat) → (MH) → (Option MH) := fun v0 h => 
  Option.bind (onc h v0 11 (f_M_wants F v0 (3 : Int32) (59 : Int32) h)) fun h1 =>
  k0 v0 h1
def b_M_readsRest_250 (F : Nat) (k0 : (Option Nat) → MH → (Option MH)) : (Option Nat) → (MH) → (Option MH) := fun v0 h => 
  b_M_readsRest_258 F k0 v0 h
def b_M_readsRest_186 (F : Nat) (k0 : (Option Nat) → MH → (Option MH)) : (Option Nat) → (Int32) → (MH) → (Option MH) := fun v0 v1 h => 
  Option.bind (gfi h v0 [11] 6) fun x1 =>
  Option.bind (onc h v0 11 (f_M_wants F v0 (1 : Int32) x1 h)) fun h3 =>
  Option.bind (onc h3 v0 11 (f_M_number F v0 (1 : Int32) (20 : Int32) (0 : Int32) h3)) fun x5 =>
  Option.bind (onc x5.2 v0 11 (f_M_isWell v0 x5.2)) fun x7 =>
  if x7 = 0 then
    b_M_readsRest_250 F k0 v0 x5.2
  else
    Option.bind (gfr x5.2 v0 [11] 14) fun x10 =>
    Option.bind (gfr x5.2 v0 [11] 14) fun x12 =>
    Option.bind (ald x5.2 x12 0 (4 : Int32)) fun x14 =>
    Option.bind (ast x5.2 x10 0 ((5 : Int32) + x14) v1) fun h16 =>
    Option.bind (gfr h16 v0 [11] 14) fun x18 =>
    Option.bind (gfr h16 v0 [11] 14) fun x20 =>
    Option.bind (ald h16 x20 0 (4 : Int32)) fun x22 =>
    Option.bind (ast h16 x18 0 ((9 : Int32) + x22) x5.1) fun h24 =>
    Option.bind (gfr h24 v0 [11] 14) fun x26 =>
    Option.bind (ald h24 x26 0 (4 : Int32)) fun x28 =>
    Option.bind (ast h24 x26 0 (4 : Int32) (x28 + (1 : Int32))) fun h30 =>
    b_M_readsRest_250 F k0 v0 h30
def b_M_readsRest_167 (F : Nat) (k0 : (Option Nat) → MH → (Option MH)) : (Option Nat) → (Int32) → (MH) → (Option MH) := fun v0 v1 h => 
  if v1 ≤ 0 then
    Option.bind (onc h v0 11 (f_M_fails v0 (1 : Int32) h)) fun h2 =>
    b_M_readsRest_258 F k0 v0 h2
  else
    Option.bind (gfr h v0 [11] 14) fun x4 =>
    Option.bind (ald h x4 0 (4 : Int32)) fun x6 =>
    if x6 = (4 : Int32) then
      Option.bind (onc h v0 11 (f_M_fails v0 (3 : Int32) h)) fun h9 =>
      b_M_readsRest_186 F k0 v0 v1 h9
    else
      b_M_readsRest_186 F k0 v0 v1 h
def b_M_readsRest_162 (F : Nat) (k0 : (Option Nat) → MH → (Option MH)) : (Option Nat) → (Option Nat) → (Int32) → (Int32) → (Int32) → (MH) → (Option MH) := fun v0 s0 s1 s2 s3 h => 
  Option.bind (ast h s0 0 s1 (s2 ||| s3)) fun h1 =>
  b_M_readsRest_258 F k0 v0 h1
def b_M_readsRest_130 (F : Nat) (k0 : (Option Nat) → MH → (Option MH)) : (Option Nat) → (Int32) → (MH) → (Option MH) := fun v0 s0 h => 
  Option.bind (onc h v0 11 (f_M_number F v0 (0 : Int32) (23 : Int32) s0 h)) fun x1 =>
  Option.bind (gfr x1.2 v0 [11] 14) fun x3 =>
  Option.bind (ald x1.2 x3 0 (13 : Int32)) fun x5 =>
  Option.bind (onc x1.2 v0 11 (f_M_isWell v0 x1.2)) fun x7 =>
  if x7 = 0 then
    b_M_readsRest_162 F k0 v0 x3 (13 : Int32) x5 (0 : Int32) x1.2
  else
    b_M_readsRest_162 F k0 v0 x3 (13 : Int32) x5 ((1 : Int32) <<< (x1.1 &&& 31)) x1.2
def b_M_readsRest_129 (F : Nat) (k0 : (Option Nat) → MH → (Option MH)) : (Option Nat) → (MH) → (Option MH) := fun v0 h => 
  b_M_readsRest_130 F k0 v0 (0 : Int32) h
def b_M_readsRest_79 (F : Nat) (k0 : (Option Nat) → MH → (Option MH)) : (Option Nat) → (MH) → (Option MH) := fun v0 h => 
  Option.bind (onc h v0 11 (f_M_wants F v0 (1 : Int32) (109 : Int32) h)) fun h1 =>
  Option.bind (gfi h1 v0 [11] 4) fun x3 =>
  if x3 = (2 : Int32) then
    Option.bind (gfi h1 v0 [11] 6) fun x6 =>
    if (f_M_in x6 (0 : Int32) (23 : Int32)) = 0 then
      b_M_readsRest_129 F k0 v0 h1
    else
      Option.bind (gfr h1 v0 [11] 14) fun x9 =>
      Option.bind (ald h1 x9 0 (13 : Int32)) fun x11 =>
      Option.bind (gfi h1 v0 [11] 6) fun x13 =>
      if ((x11 >>> (x13 &&& 31)) &&& (1 : Int32)) = (1 : Int32) then
        b_M_readsRest_130 F k0 v0 (1 : Int32) h1
      else
        b_M_readsRest_129 F k0 v0 h1
  else
    b_M_readsRest_129 F k0 v0 h1
def b_M_readsRest_33 (F : Nat) (k0 : (Option Nat) → MH → (Option MH)) : (Option Nat) → (Int32) → (MH) → (Option MH) := fun v0 s0 h => 
  Option.bind (gfi h v0 [11] 4) fun x1 =>
  if x1 = (1 : Int32) then
    Option.bind (gfi h v0 [11] 6) fun x4 =>
    if x4 = (109 : Int32) then
      Option.bind (gfr h v0 [11] 14) fun x7 =>
      Option.bind (ald h x7 0 (4 : Int32)) fun x9 =>
      if x9 = 0 then
        Option.bind (gfr h v0 [11] 14) fun x12 =>
        Option.bind (ald h x12 0 (13 : Int32)) fun x14 =>
        Option.bind (f_M_ones F x14) fun x16 =>
        if x16 = (4 : Int32) then
          Option.bind (onc h v0 11 (f_M_fails v0 (3 : Int32) h)) fun h19 =>
          b_M_readsRest_79 F k0 v0 h19
        else
          b_M_readsRest_79 F k0 v0 h
      else
        b_M_readsRest_167 F k0 v0 s0 h
    else
      b_M_readsRest_167 F k0 v0 s0 h
  else
    b_M_readsRest_167 F k0 v0 s0 h
def b_M_readsRest_0 (F : Nat) : Nat → (Option Nat) → (MH) → (Option MH)
  | 0 => fun _ _ => none
  | n + 1 => fun v0 h => 
    Option.bind (onc h v0 11 (f_M_isWell v0 h)) fun x1 =>
    if x1 = 0 then
      some h
    else
      Option.bind (gfi h v0 [11] 4) fun x4 =>
      if x4 = 0 then
        some h
      else
        Option.bind (gfi h v0 [11] 4) fun x7 =>
        if x7 = (1 : Int32) then
          Option.bind (gfi h v0 [11] 6) fun x10 =>
          b_M_readsRest_33 F (b_M_readsRest_0 F n) v0 (f_M_sortOf x10) h
        else
          b_M_readsRest_33 F (b_M_readsRest_0 F n) v0 (0 : Int32) h
def f_M_readsRest (F : Nat) (v0 : Option Nat) (h : MH) : Option MH :=
  b_M_readsRest_0 F F v0 h
set_option maxHeartbeats 4000000 in
set_option maxRecDepth 200000 in
theorem p_M_readsRest_258 (F : Nat) {h0 : MH} (k0 : (Option Nat) → MH → (Option MH)) (hk0 : ∀ (v0 : Option Nat) (h : MH) (r : MH), k0 v0 h = some r → Rt mi_M_readsRest 4 h0 0 [(0, va_rf v0)] [] h none r) (v0 : Option Nat) (h : MH) (r : MH) : b_M_readsRest_258 F k0  v0 h = some r → Rt mi_M_readsRest 4 h0 258 [(0, va_rf v0)] [] h none r := by
  intro hyp
  unfold b_M_readsRest_258 at hyp
  obtain ⟨h1, e2, hyp⟩ := Option.bind_eq_some_iff.mp hyp
  refine rt_st (pc1 := 0) (fun _ _ B => go_aload_n 0 d_M_readsRest_258 rfl (go_iconst (v := (3 : Int32)) d_M_readsRest_259 (by decide) (go_bipush (v := (59 : Int32)) d_M_readsRest_260 (by decide) (go_callV0 (q := q_11) (st := []) [.int (3 : Int32), .int (59 : Int32)] (t_M_wants F v0 (3 : Int32) (59 : Int32) h _ (onc_spec e2).2) mm_M_wants (by decide) d_M_readsRest_262 (onc_spec e2).1 rfl rfl w1126 w1128 w35 rfl (Nat.le_of_ble_eq_true rfl) rfl (go_goto 0 d_M_readsRest_265 rfl B))))) ?_
  exact hk0 _ _ _ hyp
set_option maxHeartbeats 4000000 in
set_option maxRecDepth 200000 in
theorem p_M_readsRest_250 (F : Nat) {h0 : MH} (k0 : (Option Nat) → MH → (Option MH)) (hk0 : ∀ (v0 : Option Nat) (h : MH) (r : MH), k0 v0 h = some r → Rt mi_M_readsRest 4 h0 0 [(0, va_rf v0)] [] h none r) (v0 : Option Nat) (h : MH) (r : MH) : b_M_readsRest_250 F k0  v0 h = some r → Rt mi_M_readsRest 4 h0 250 [(0, va_rf v0)] [] h none r := by
  intro hyp
  unfold b_M_readsRest_250 at hyp
  refine rt_st (pc1 := 258) (fun _ _ B => go_goto 258 d_M_readsRest_250 rfl B) ?_
  exact p_M_readsRest_258 F k0 hk0 _ _ r hyp
set_option maxHeartbeats 4000000 in
set_option maxRecDepth 200000 in
theorem p_M_readsRest_186 (F : Nat) {h0 : MH} (k0 : (Option Nat) → MH → (Option MH)) (hk0 : ∀ (v0 : Option Nat) (h : MH) (r : MH), k0 v0 h = some r → Rt mi_M_readsRest 4 h0 0 [(0, va_rf v0)] [] h none r) (v0 : Option Nat) (v1 : Int32) (h : MH) (r : MH) : b_M_readsRest_186 F k0  v0 v1 h = some r → Rt mi_M_readsRest 4 h0 186 [(0, va_rf v0), (1, .int v1)] [] h none r := by
  intro hyp
  unfold b_M_readsRest_186 at hyp
  obtain ⟨x1, e2, hyp⟩ := Option.bind_eq_some_iff.mp hyp
  obtain ⟨h3, e4, hyp⟩ := Option.bind_eq_some_iff.mp hyp
  obtain ⟨x5, e6, hyp⟩ := Option.bind_eq_some_iff.mp hyp
  obtain ⟨x7, e8, hyp⟩ := Option.bind_eq_some_iff.mp hyp
  refine rt_st (pc1 := 208) (fun _ _ B => go_aload_n 0 d_M_readsRest_186 rfl (go_iconst (v := (1 : Int32)) d_M_readsRest_187 (by decide) (go_aload_n 0 d_M_readsRest_188 rfl (go_gfi d_M_readsRest_189 fd_11_6 w995 e2 (go_callV0 (q := q_11) (st := []) [.int (1 : Int32), .int x1] (t_M_wants F v0 (1 : Int32) x1 h _ (onc_spec e4).2) mm_M_wants (by decide) d_M_readsRest_192 (onc_spec e4).1 rfl rfl w1126 w1128 w35 rfl (Nat.le_of_ble_eq_true rfl) rfl (go_aload_n 0 d_M_readsRest_195 rfl (go_iconst (v := (1 : Int32)) d_M_readsRest_196 (by decide) (go_bipush (v := (20 : Int32)) d_M_readsRest_197 (by decide) (go_iconst (v := (0 : Int32)) d_M_readsRest_199 (by decide) (go_callV1 (q := q_11) (st := []) [.int (1 : Int32), .int (20 : Int32), .int (0 : Int32)] (t_M_number F v0 (1 : Int32) (20 : Int32) (0 : Int32) h3 _ (onc_spec e6).2) mm_M_number (by decide) d_M_readsRest_200 (onc_spec e6).1 rfl rfl w1138 w1140 w38 rfl (Nat.le_of_ble_eq_true rfl) rfl (go_istore_n (lv1 := [(2, .int x5.1), (0, va_rf v0), (1, .int v1)]) d_M_readsRest_203 (by decide) rfl (go_aload_n 1 d_M_readsRest_204 rfl (go_callV1 (q := q_11) (st := []) [] (t_M_isWell v0 x5.2 _ (onc_spec e8).2) mm_M_isWell (by decide) d_M_readsRest_205 (onc_spec e8).1 rfl rfl w1134 w1136 w37 rfl (Nat.le_of_ble_eq_true rfl) rfl B))))))))))))) ?_
  by_cases c9 : x7 = 0
  · replace hyp := (if_pos c9).symm.trans hyp
    refine rt_st (pc1 := 250) (fun _ _ B => go_if_eq_t 250 d_M_readsRest_208 rfl c9 B) ?_
    refine rt_sub [1] (lv1 := [(0, va_rf v0)]) rfl ?_
    exact p_M_readsRest_250 F k0 hk0 _ _ r hyp
  · replace hyp := (if_neg c9).symm.trans hyp
    obtain ⟨x10, e11, hyp⟩ := Option.bind_eq_some_iff.mp hyp
    obtain ⟨x12, e13, hyp⟩ := Option.bind_eq_some_iff.mp hyp
    obtain ⟨x14, e15, hyp⟩ := Option.bind_eq_some_iff.mp hyp
    obtain ⟨h16, e17, hyp⟩ := Option.bind_eq_some_iff.mp hyp
    obtain ⟨x18, e19, hyp⟩ := Option.bind_eq_some_iff.mp hyp
    obtain ⟨x20, e21, hyp⟩ := Option.bind_eq_some_iff.mp hyp
    obtain ⟨x22, e23, hyp⟩ := Option.bind_eq_some_iff.mp hyp
    obtain ⟨h24, e25, hyp⟩ := Option.bind_eq_some_iff.mp hyp
    obtain ⟨x26, e27, hyp⟩ := Option.bind_eq_some_iff.mp hyp
    obtain ⟨x28, e29, hyp⟩ := Option.bind_eq_some_iff.mp hyp
    obtain ⟨h30, e31, hyp⟩ := Option.bind_eq_some_iff.mp hyp
    refine rt_st (pc1 := 250) (fun _ _ B => go_if_eq_f d_M_readsRest_208 rfl c9 (go_aload_n 1 d_M_readsRest_211 rfl (go_gfr d_M_readsRest_212 fd_11_14 w1003 e11 (go_iconst (v := (5 : Int32)) d_M_readsRest_215 (by decide) (go_aload_n 1 d_M_readsRest_216 rfl (go_gfr d_M_readsRest_217 fd_11_14 w1003 e13 (go_iconst (v := (4 : Int32)) d_M_readsRest_220 (by decide) (go_iald d_M_readsRest_221 e15 (go_iadd d_M_readsRest_222 (go_iload_n 2 d_M_readsRest_223 rfl (go_iast d_M_readsRest_224 e17 (go_aload_n 1 d_M_readsRest_225 rfl (go_gfr d_M_readsRest_226 fd_11_14 w1003 e19 (go_bipush (v := (9 : Int32)) d_M_readsRest_229 (by decide) (go_aload_n 1 d_M_readsRest_231 rfl (go_gfr d_M_readsRest_232 fd_11_14 w1003 e21 (go_iconst (v := (4 : Int32)) d_M_readsRest_235 (by decide) (go_iald d_M_readsRest_236 e23 (go_iadd d_M_readsRest_237 (go_iload_n 0 d_M_readsRest_238 rfl (go_iast d_M_readsRest_239 e25 (go_aload_n 1 d_M_readsRest_240 rfl (go_gfr d_M_readsRest_241 fd_11_14 w1003 e27 (go_iconst (v := (4 : Int32)) d_M_readsRest_244 (by decide) (go_dup2 d_M_readsRest_245 rfl (mj_rfc _) (go_iald d_M_readsRest_246 e29 (go_iconst (v := (1 : Int32)) d_M_readsRest_247 (by decide) (go_iadd d_M_readsRest_248 (go_iast d_M_readsRest_249 e31 B))))))))))))))))))))))))))))) ?_
    refine rt_sub [1] (lv1 := [(0, va_rf v0)]) rfl ?_
    exact p_M_readsRest_250 F k0 hk0 _ _ r hyp
set_option maxHeartbeats 4000000 in
set_option maxRecDepth 200000 in
theorem p_M_readsRest_167 (F : Nat) {h0 : MH} (k0 : (Option Nat) → MH → (Option MH)) (hk0 : ∀ (v0 : Option Nat) (h : MH) (r : MH), k0 v0 h = some r → Rt mi_M_readsRest 4 h0 0 [(0, va_rf v0)] [] h none r) (v0 : Option Nat) (v1 : Int32) (h : MH) (r : MH) : b_M_readsRest_167 F k0  v0 v1 h = some r → Rt mi_M_readsRest 4 h0 167 [(0, va_rf v0), (1, .int v1)] [] h none r := by
  intro hyp
  unfold b_M_readsRest_167 at hyp
  refine rt_st (pc1 := 168) (fun _ _ B => go_iload_n 1 d_M_readsRest_167 rfl B) ?_
  by_cases c1 : v1 ≤ 0
  · replace hyp := (if_pos c1).symm.trans hyp
    obtain ⟨h2, e3, hyp⟩ := Option.bind_eq_some_iff.mp hyp
    refine rt_st (pc1 := 258) (fun _ _ B => go_if_le_t 253 d_M_readsRest_168 rfl c1 (go_aload_n 0 d_M_readsRest_253 rfl (go_iconst (v := (1 : Int32)) d_M_readsRest_254 (by decide) (go_callV0 (q := q_11) (st := []) [.int (1 : Int32)] (t_M_fails v0 (1 : Int32) h _ (onc_spec e3).2) mm_M_fails (by decide) d_M_readsRest_255 (onc_spec e3).1 rfl rfl w1130 w1132 w36 rfl (Nat.le_of_ble_eq_true rfl) rfl B)))) ?_
    refine rt_sub [0] (lv1 := [(0, va_rf v0)]) rfl ?_
    exact p_M_readsRest_258 F k0 hk0 _ _ r hyp
  · replace hyp := (if_neg c1).symm.trans hyp
    obtain ⟨x4, e5, hyp⟩ := Option.bind_eq_some_iff.mp hyp
    obtain ⟨x6, e7, hyp⟩ := Option.bind_eq_some_iff.mp hyp
    refine rt_st (pc1 := 178) (fun _ _ B => go_if_le_f d_M_readsRest_168 rfl c1 (go_aload_n 0 d_M_readsRest_171 rfl (go_gfr d_M_readsRest_172 fd_11_14 w1003 e5 (go_iconst (v := (4 : Int32)) d_M_readsRest_175 (by decide) (go_iald d_M_readsRest_176 e7 (go_iconst (v := (4 : Int32)) d_M_readsRest_177 (by decide) B)))))) ?_
    by_cases c8 : x6 = (4 : Int32)
    · replace hyp := (if_pos c8).symm.trans hyp
      obtain ⟨h9, e10, hyp⟩ := Option.bind_eq_some_iff.mp hyp
      refine rt_st (pc1 := 186) (fun _ _ B => go_icmp_ne_f d_M_readsRest_178 rfl c8 (go_aload_n 0 d_M_readsRest_181 rfl (go_iconst (v := (3 : Int32)) d_M_readsRest_182 (by decide) (go_callV0 (q := q_11) (st := []) [.int (3 : Int32)] (t_M_fails v0 (3 : Int32) h _ (onc_spec e10).2) mm_M_fails (by decide) d_M_readsRest_183 (onc_spec e10).1 rfl rfl w1130 w1132 w36 rfl (Nat.le_of_ble_eq_true rfl) rfl B)))) ?_
      exact p_M_readsRest_186 F k0 hk0 _ _ _ r hyp
    · replace hyp := (if_neg c8).symm.trans hyp
      refine rt_st (pc1 := 186) (fun _ _ B => go_icmp_ne_t 186 d_M_readsRest_178 rfl c8 B) ?_
      exact p_M_readsRest_186 F k0 hk0 _ _ _ r hyp
set_option maxHeartbeats 4000000 in
set_option maxRecDepth 200000 in
theorem p_M_readsRest_162 (F : Nat) {h0 : MH} (k0 : (Option Nat) → MH → (Option MH)) (hk0 : ∀ (v0 : Option Nat) (h : MH) (r : MH), k0 v0 h = some r → Rt mi_M_readsRest 4 h0 0 [(0, va_rf v0)] [] h none r) (v0 : Option Nat) (s0 : Option Nat) (s1 : Int32) (s2 : Int32) (s3 : Int32) (h : MH) (r : MH) : b_M_readsRest_162 F k0  v0 s0 s1 s2 s3 h = some r → Rt mi_M_readsRest 4 h0 162 [(0, va_rf v0)] [.int s3, .int s2, .int s1, va_rf s0] h none r := by
  intro hyp
  unfold b_M_readsRest_162 at hyp
  obtain ⟨h1, e2, hyp⟩ := Option.bind_eq_some_iff.mp hyp
  refine rt_st (pc1 := 258) (fun _ _ B => go_ior d_M_readsRest_162 (go_iast d_M_readsRest_163 e2 (go_goto 258 d_M_readsRest_164 rfl B))) ?_
  exact p_M_readsRest_258 F k0 hk0 _ _ r hyp
set_option maxHeartbeats 4000000 in
set_option maxRecDepth 200000 in
theorem p_M_readsRest_130 (F : Nat) {h0 : MH} (k0 : (Option Nat) → MH → (Option MH)) (hk0 : ∀ (v0 : Option Nat) (h : MH) (r : MH), k0 v0 h = some r → Rt mi_M_readsRest 4 h0 0 [(0, va_rf v0)] [] h none r) (v0 : Option Nat) (s0 : Int32) (h : MH) (r : MH) : b_M_readsRest_130 F k0  v0 s0 h = some r → Rt mi_M_readsRest 4 h0 130 [(0, va_rf v0)] [.int s0] h none r := by
  intro hyp
  unfold b_M_readsRest_130 at hyp
  obtain ⟨x1, e2, hyp⟩ := Option.bind_eq_some_iff.mp hyp
  obtain ⟨x3, e4, hyp⟩ := Option.bind_eq_some_iff.mp hyp
  obtain ⟨x5, e6, hyp⟩ := Option.bind_eq_some_iff.mp hyp
  obtain ⟨x7, e8, hyp⟩ := Option.bind_eq_some_iff.mp hyp
  refine rt_st (pc1 := 152) (fun _ _ B => go_istore_n (lv1 := [(2, .int s0), (0, va_rf v0)]) d_M_readsRest_130 (by decide) rfl (go_aload_n 1 d_M_readsRest_131 rfl (go_iconst (v := (0 : Int32)) d_M_readsRest_132 (by decide) (go_bipush (v := (23 : Int32)) d_M_readsRest_133 (by decide) (go_iload_n 0 d_M_readsRest_135 rfl (go_callV1 (q := q_11) (st := []) [.int (0 : Int32), .int (23 : Int32), .int s0] (t_M_number F v0 (0 : Int32) (23 : Int32) s0 h _ (onc_spec e2).2) mm_M_number (by decide) d_M_readsRest_136 (onc_spec e2).1 rfl rfl w1138 w1140 w38 rfl (Nat.le_of_ble_eq_true rfl) rfl (go_istore_n (lv1 := [(3, .int x1.1), (2, .int s0), (0, va_rf v0)]) d_M_readsRest_139 (by decide) rfl (go_aload_n 2 d_M_readsRest_140 rfl (go_gfr d_M_readsRest_141 fd_11_14 w1003 e4 (go_bipush (v := (13 : Int32)) d_M_readsRest_144 (by decide) (go_dup2 d_M_readsRest_146 rfl (mj_rfc _) (go_iald d_M_readsRest_147 e6 (go_aload_n 2 d_M_readsRest_148 rfl (go_callV1 (q := q_11) (st := [.int x5, .int (13 : Int32), va_rf x3]) [] (t_M_isWell v0 x1.2 _ (onc_spec e8).2) mm_M_isWell (by decide) d_M_readsRest_149 (onc_spec e8).1 rfl rfl w1134 w1136 w37 rfl (Nat.le_of_ble_eq_true rfl) rfl B)))))))))))))) ?_
  by_cases c9 : x7 = 0
  · replace hyp := (if_pos c9).symm.trans hyp
    refine rt_st (pc1 := 162) (fun _ _ B => go_if_eq_t 161 d_M_readsRest_152 rfl c9 (go_iconst (v := (0 : Int32)) d_M_readsRest_161 (by decide) B)) ?_
    refine rt_sub [2] (lv1 := [(0, va_rf v0)]) rfl ?_
    exact p_M_readsRest_162 F k0 hk0 _ _ _ _ _ _ r hyp
  · replace hyp := (if_neg c9).symm.trans hyp
    refine rt_st (pc1 := 162) (fun _ _ B => go_if_eq_f d_M_readsRest_152 rfl c9 (go_iconst (v := (1 : Int32)) d_M_readsRest_155 (by decide) (go_iload_n 0 d_M_readsRest_156 rfl (go_ishl d_M_readsRest_157 (go_goto 162 d_M_readsRest_158 rfl B))))) ?_
    refine rt_sub [2] (lv1 := [(0, va_rf v0)]) rfl ?_
    exact p_M_readsRest_162 F k0 hk0 _ _ _ _ _ _ r hyp
set_option maxHeartbeats 4000000 in
set_option maxRecDepth 200000 in
theorem p_M_readsRest_129 (F : Nat) {h0 : MH} (k0 : (Option Nat) → MH → (Option MH)) (hk0 : ∀ (v0 : Option Nat) (h : MH) (r : MH), k0 v0 h = some r → Rt mi_M_readsRest 4 h0 0 [(0, va_rf v0)] [] h none r) (v0 : Option Nat) (h : MH) (r : MH) : b_M_readsRest_129 F k0  v0 h = some r → Rt mi_M_readsRest 4 h0 129 [(0, va_rf v0)] [] h none r := by
  intro hyp
  unfold b_M_readsRest_129 at hyp
  refine rt_st (pc1 := 130) (fun _ _ B => go_iconst (v := (0 : Int32)) d_M_readsRest_129 (by decide) B) ?_
  exact p_M_readsRest_130 F k0 hk0 _ _ _ r hyp
set_option maxHeartbeats 4000000 in
set_option maxRecDepth 200000 in
theorem p_M_readsRest_79 (F : Nat) {h0 : MH} (k0 : (Option Nat) → MH → (Option MH)) (hk0 : ∀ (v0 : Option Nat) (h : MH) (r : MH), k0 v0 h = some r → Rt mi_M_readsRest 4 h0 0 [(0, va_rf v0)] [] h none r) (v0 : Option Nat) (h : MH) (r : MH) : b_M_readsRest_79 F k0  v0 h = some r → Rt mi_M_readsRest 4 h0 79 [(0, va_rf v0)] [] h none r := by
  intro hyp
  unfold b_M_readsRest_79 at hyp
  obtain ⟨h1, e2, hyp⟩ := Option.bind_eq_some_iff.mp hyp
  obtain ⟨x3, e4, hyp⟩ := Option.bind_eq_some_iff.mp hyp
  refine rt_st (pc1 := 91) (fun _ _ B => go_aload_n 0 d_M_readsRest_79 rfl (go_iconst (v := (1 : Int32)) d_M_readsRest_80 (by decide) (go_bipush (v := (109 : Int32)) d_M_readsRest_81 (by decide) (go_callV0 (q := q_11) (st := []) [.int (1 : Int32), .int (109 : Int32)] (t_M_wants F v0 (1 : Int32) (109 : Int32) h _ (onc_spec e2).2) mm_M_wants (by decide) d_M_readsRest_83 (onc_spec e2).1 rfl rfl w1126 w1128 w35 rfl (Nat.le_of_ble_eq_true rfl) rfl (go_aload_n 0 d_M_readsRest_86 rfl (go_gfi d_M_readsRest_87 fd_11_4 w993 e4 (go_iconst (v := (2 : Int32)) d_M_readsRest_90 (by decide) B))))))) ?_
  by_cases c5 : x3 = (2 : Int32)
  · replace hyp := (if_pos c5).symm.trans hyp
    obtain ⟨x6, e7, hyp⟩ := Option.bind_eq_some_iff.mp hyp
    refine rt_st (pc1 := 104) (fun _ _ B => go_icmp_ne_f d_M_readsRest_91 rfl c5 (go_aload_n 0 d_M_readsRest_94 rfl (go_gfi d_M_readsRest_95 fd_11_6 w995 e7 (go_iconst (v := (0 : Int32)) d_M_readsRest_98 (by decide) (go_bipush (v := (23 : Int32)) d_M_readsRest_99 (by decide) (go_callS1 (st := []) [.int x6, .int (0 : Int32), .int (23 : Int32)] (t_M_in x6 (0 : Int32) (23 : Int32) h1) mm_M_in (by decide) d_M_readsRest_101 w1073 w1074 rfl (Nat.le_of_ble_eq_true rfl) rfl B)))))) ?_
    by_cases c8 : (f_M_in x6 (0 : Int32) (23 : Int32)) = 0
    · replace hyp := (if_pos c8).symm.trans hyp
      refine rt_st (pc1 := 129) (fun _ _ B => go_if_eq_t 129 d_M_readsRest_104 rfl c8 B) ?_
      exact p_M_readsRest_129 F k0 hk0 _ _ r hyp
    · replace hyp := (if_neg c8).symm.trans hyp
      obtain ⟨x9, e10, hyp⟩ := Option.bind_eq_some_iff.mp hyp
      obtain ⟨x11, e12, hyp⟩ := Option.bind_eq_some_iff.mp hyp
      obtain ⟨x13, e14, hyp⟩ := Option.bind_eq_some_iff.mp hyp
      refine rt_st (pc1 := 122) (fun _ _ B => go_if_eq_f d_M_readsRest_104 rfl c8 (go_aload_n 0 d_M_readsRest_107 rfl (go_gfr d_M_readsRest_108 fd_11_14 w1003 e10 (go_bipush (v := (13 : Int32)) d_M_readsRest_111 (by decide) (go_iald d_M_readsRest_113 e12 (go_aload_n 0 d_M_readsRest_114 rfl (go_gfi d_M_readsRest_115 fd_11_6 w995 e14 (go_ishr d_M_readsRest_118 (go_iconst (v := (1 : Int32)) d_M_readsRest_119 (by decide) (go_iand d_M_readsRest_120 (go_iconst (v := (1 : Int32)) d_M_readsRest_121 (by decide) B))))))))))) ?_
      by_cases c15 : ((x11 >>> (x13 &&& 31)) &&& (1 : Int32)) = (1 : Int32)
      · replace hyp := (if_pos c15).symm.trans hyp
        refine rt_st (pc1 := 130) (fun _ _ B => go_icmp_ne_f d_M_readsRest_122 rfl c15 (go_iconst (v := (1 : Int32)) d_M_readsRest_125 (by decide) (go_goto 130 d_M_readsRest_126 rfl B))) ?_
        exact p_M_readsRest_130 F k0 hk0 _ _ _ r hyp
      · replace hyp := (if_neg c15).symm.trans hyp
        refine rt_st (pc1 := 129) (fun _ _ B => go_icmp_ne_t 129 d_M_readsRest_122 rfl c15 B) ?_
        exact p_M_readsRest_129 F k0 hk0 _ _ r hyp
  · replace hyp := (if_neg c5).symm.trans hyp
    refine rt_st (pc1 := 129) (fun _ _ B => go_icmp_ne_t 129 d_M_readsRest_91 rfl c5 B) ?_
    exact p_M_readsRest_129 F k0 hk0 _ _ r hyp
set_option maxHeartbeats 4000000 in
set_option maxRecDepth 200000 in
theorem p_M_readsRest_33 (F : Nat) {h0 : MH} (k0 : (Option Nat) → MH → (Option MH)) (hk0 : ∀ (v0 : Option Nat) (h : MH) (r : MH), k0 v0 h = some r → Rt mi_M_readsRest 4 h0 0 [(0, va_rf v0)] [] h none r) (v0 : Option Nat) (s0 : Int32) (h : MH) (r : MH) : b_M_readsRest_33 F k0  v0 s0 h = some r → Rt mi_M_readsRest 4 h0 33 [(0, va_rf v0)] [.int s0] h none r := by
  intro hyp
  unfold b_M_readsRest_33 at hyp
  obtain ⟨x1, e2, hyp⟩ := Option.bind_eq_some_iff.mp hyp
  refine rt_st (pc1 := 39) (fun _ _ B => go_istore_n (lv1 := [(1, .int s0), (0, va_rf v0)]) d_M_readsRest_33 (by decide) (by first | (simp [mj_s1, mj_s2, mj_rfc, mj_cti, mj_ctl]; done) | (simp [mj_s1, mj_s2, mj_rfc, mj_cti, mj_ctl]; decide)) (go_aload_n 1 d_M_readsRest_34 rfl (go_gfi d_M_readsRest_35 fd_11_4 w993 e2 (go_iconst (v := (1 : Int32)) d_M_readsRest_38 (by decide) B)))) ?_
  by_cases c3 : x1 = (1 : Int32)
  · replace hyp := (if_pos c3).symm.trans hyp
    obtain ⟨x4, e5, hyp⟩ := Option.bind_eq_some_iff.mp hyp
    refine rt_st (pc1 := 48) (fun _ _ B => go_icmp_ne_f d_M_readsRest_39 rfl c3 (go_aload_n 1 d_M_readsRest_42 rfl (go_gfi d_M_readsRest_43 fd_11_6 w995 e5 (go_bipush (v := (109 : Int32)) d_M_readsRest_46 (by decide) B)))) ?_
    by_cases c6 : x4 = (109 : Int32)
    · replace hyp := (if_pos c6).symm.trans hyp
      obtain ⟨x7, e8, hyp⟩ := Option.bind_eq_some_iff.mp hyp
      obtain ⟨x9, e10, hyp⟩ := Option.bind_eq_some_iff.mp hyp
      refine rt_st (pc1 := 57) (fun _ _ B => go_icmp_ne_f d_M_readsRest_48 rfl c6 (go_aload_n 1 d_M_readsRest_51 rfl (go_gfr d_M_readsRest_52 fd_11_14 w1003 e8 (go_iconst (v := (4 : Int32)) d_M_readsRest_55 (by decide) (go_iald d_M_readsRest_56 e10 B))))) ?_
      by_cases c11 : x9 = 0
      · replace hyp := (if_pos c11).symm.trans hyp
        obtain ⟨x12, e13, hyp⟩ := Option.bind_eq_some_iff.mp hyp
        obtain ⟨x14, e15, hyp⟩ := Option.bind_eq_some_iff.mp hyp
        obtain ⟨x16, e17, hyp⟩ := Option.bind_eq_some_iff.mp hyp
        refine rt_st (pc1 := 71) (fun _ _ B => go_if_ne_f d_M_readsRest_57 rfl c11 (go_aload_n 1 d_M_readsRest_60 rfl (go_gfr d_M_readsRest_61 fd_11_14 w1003 e13 (go_bipush (v := (13 : Int32)) d_M_readsRest_64 (by decide) (go_iald d_M_readsRest_66 e15 (go_callS1 (st := []) [.int x14] (t_M_ones F x14 h _ e17) mm_M_ones (by decide) d_M_readsRest_67 w1149 w1150 rfl (Nat.le_of_ble_eq_true rfl) rfl (go_iconst (v := (4 : Int32)) d_M_readsRest_70 (by decide) B))))))) ?_
        by_cases c18 : x16 = (4 : Int32)
        · replace hyp := (if_pos c18).symm.trans hyp
          obtain ⟨h19, e20, hyp⟩ := Option.bind_eq_some_iff.mp hyp
          refine rt_st (pc1 := 79) (fun _ _ B => go_icmp_ne_f d_M_readsRest_71 rfl c18 (go_aload_n 1 d_M_readsRest_74 rfl (go_iconst (v := (3 : Int32)) d_M_readsRest_75 (by decide) (go_callV0 (q := q_11) (st := []) [.int (3 : Int32)] (t_M_fails v0 (3 : Int32) h _ (onc_spec e20).2) mm_M_fails (by decide) d_M_readsRest_76 (onc_spec e20).1 rfl rfl w1130 w1132 w36 rfl (Nat.le_of_ble_eq_true rfl) rfl B)))) ?_
          refine rt_sub [1] (lv1 := [(0, va_rf v0)]) rfl ?_
          exact p_M_readsRest_79 F k0 hk0 _ _ r hyp
        · replace hyp := (if_neg c18).symm.trans hyp
          refine rt_st (pc1 := 79) (fun _ _ B => go_icmp_ne_t 79 d_M_readsRest_71 rfl c18 B) ?_
          refine rt_sub [1] (lv1 := [(0, va_rf v0)]) rfl ?_
          exact p_M_readsRest_79 F k0 hk0 _ _ r hyp
      · replace hyp := (if_neg c11).symm.trans hyp
        refine rt_st (pc1 := 167) (fun _ _ B => go_if_ne_t 167 d_M_readsRest_57 rfl c11 B) ?_
        refine rt_sub [1, 0] (lv1 := [(0, va_rf v0), (1, .int s0)]) rfl ?_
        exact p_M_readsRest_167 F k0 hk0 _ _ _ r hyp
    · replace hyp := (if_neg c6).symm.trans hyp
      refine rt_st (pc1 := 167) (fun _ _ B => go_icmp_ne_t 167 d_M_readsRest_48 rfl c6 B) ?_
      refine rt_sub [1, 0] (lv1 := [(0, va_rf v0), (1, .int s0)]) rfl ?_
      exact p_M_readsRest_167 F k0 hk0 _ _ _ r hyp
  · replace hyp := (if_neg c3).symm.trans hyp
    refine rt_st (pc1 := 167) (fun _ _ B => go_icmp_ne_t 167 d_M_readsRest_39 rfl c3 B) ?_
    refine rt_sub [1, 0] (lv1 := [(0, va_rf v0), (1, .int s0)]) rfl ?_
    exact p_M_readsRest_167 F k0 hk0 _ _ _ r hyp
set_option maxHeartbeats 4000000 in
set_option maxRecDepth 200000 in
theorem p_M_readsRest_0 (F : Nat) {h0 : MH} : ∀ (n : Nat) (v0 : Option Nat) (h : MH) (r : MH), b_M_readsRest_0 F  n v0 h = some r → Rt mi_M_readsRest 4 h0 0 [(0, va_rf v0)] [] h none r := by
  intro n
  induction n with
  | zero =>
    intro v0 h r hyp
    cases hyp
  | succ n ih =>
    intro v0 h r hyp
    unfold b_M_readsRest_0 at hyp
    obtain ⟨x1, e2, hyp⟩ := Option.bind_eq_some_iff.mp hyp
    refine rt_st (pc1 := 4) (fun _ _ B => go_aload_n 0 d_M_readsRest_0 rfl (go_callV1 (q := q_11) (st := []) [] (t_M_isWell v0 h _ (onc_spec e2).2) mm_M_isWell (by decide) d_M_readsRest_1 (onc_spec e2).1 rfl rfl w1134 w1136 w37 rfl (Nat.le_of_ble_eq_true rfl) rfl B)) ?_
    by_cases c3 : x1 = 0
    · replace hyp := (if_pos c3).symm.trans hyp
      refine rt_st (pc1 := 268) (fun _ _ B => go_if_eq_t 268 d_M_readsRest_4 rfl c3 B) ?_
      exact rt_eq0 hyp (rt_void d_M_readsRest_268 rfl)
    · replace hyp := (if_neg c3).symm.trans hyp
      obtain ⟨x4, e5, hyp⟩ := Option.bind_eq_some_iff.mp hyp
      refine rt_st (pc1 := 11) (fun _ _ B => go_if_eq_f d_M_readsRest_4 rfl c3 (go_aload_n 0 d_M_readsRest_7 rfl (go_gfi d_M_readsRest_8 fd_11_4 w993 e5 B))) ?_
      by_cases c6 : x4 = 0
      · replace hyp := (if_pos c6).symm.trans hyp
        refine rt_st (pc1 := 268) (fun _ _ B => go_if_eq_t 268 d_M_readsRest_11 rfl c6 B) ?_
        exact rt_eq0 hyp (rt_void d_M_readsRest_268 rfl)
      · replace hyp := (if_neg c6).symm.trans hyp
        obtain ⟨x7, e8, hyp⟩ := Option.bind_eq_some_iff.mp hyp
        refine rt_st (pc1 := 19) (fun _ _ B => go_if_eq_f d_M_readsRest_11 rfl c6 (go_aload_n 0 d_M_readsRest_14 rfl (go_gfi d_M_readsRest_15 fd_11_4 w993 e8 (go_iconst (v := (1 : Int32)) d_M_readsRest_18 (by decide) B)))) ?_
        by_cases c9 : x7 = (1 : Int32)
        · replace hyp := (if_pos c9).symm.trans hyp
          obtain ⟨x10, e11, hyp⟩ := Option.bind_eq_some_iff.mp hyp
          refine rt_st (pc1 := 33) (fun _ _ B => go_icmp_ne_f d_M_readsRest_19 rfl c9 (go_aload_n 0 d_M_readsRest_22 rfl (go_gfi d_M_readsRest_23 fd_11_6 w995 e11 (go_callS1 (st := []) [.int x10] (t_M_sortOf x10 h) mm_M_sortOf (by decide) d_M_readsRest_26 w1146 w1147 rfl (Nat.le_of_ble_eq_true rfl) rfl (go_goto 33 d_M_readsRest_29 rfl B))))) ?_
          exact p_M_readsRest_33 F (b_M_readsRest_0 F n) (fun a0 a1 r hyp => ih a0 a1 r hyp) _ _ _ r hyp
        · replace hyp := (if_neg c9).symm.trans hyp
          refine rt_st (pc1 := 33) (fun _ _ B => go_icmp_ne_t 32 d_M_readsRest_19 rfl c9 (go_iconst (v := (0 : Int32)) d_M_readsRest_32 (by decide) B)) ?_
          exact p_M_readsRest_33 F (b_M_readsRest_0 F n) (fun a0 a1 r hyp => ih a0 a1 r hyp) _ _ _ r hyp
set_option maxHeartbeats 4000000 in
set_option maxRecDepth 200000 in
theorem t_M_readsRest (F : Nat) (v0 : Option Nat) (h : MH) (r : MH) (hyp : f_M_readsRest F v0 h = some r) : Mt mi_M_readsRest 4 [va_rf v0] h none r := by
  refine Mt.rt (lv := [(0, va_rf v0)]) (by decide +kernel) (by simp [lv_args, mj_rfc, mj_cti, mj_ctl]) (by simp [mj_rfc, mj_cti, mj_ctl]) ?_
  unfold f_M_readsRest at hyp
  exact p_M_readsRest_0 F F _ _ r hyp
/-! WideTurnModel.copies([I[I)V -/
def b_M_copies_2 (F : Nat) : Nat → (Option Nat) → (Option Nat) → (Int32) → (MH) → (Option MH)
  | 0 => fun _ _ _ _ => none
  | n + 1 => fun v0 v1 v2 h => 
    if (42 : Int32) ≤ v2 then
      some h
    else
      Option.bind (ald h v0 0 v2) fun x2 =>
      Option.bind (ast h v1 0 v2 x2) fun h4 =>
      (b_M_copies_2 F n) v0 v1 (v2 + (1 : Int32)) h4
def f_M_copies (F : Nat) (v0 : Option Nat) (v1 : Option Nat) (h : MH) : Option MH :=
  b_M_copies_2 F F v0 v1 (0 : Int32) h
set_option maxHeartbeats 4000000 in
set_option maxRecDepth 200000 in
theorem p_M_copies_2 (F : Nat) {h0 : MH} : ∀ (n : Nat) (v0 : Option Nat) (v1 : Option Nat) (v2 : Int32) (h : MH) (r : MH), b_M_copies_2 F  n v0 v1 v2 h = some r → Rt mi_M_copies 1 h0 2 [(0, va_rf v0), (1, va_rf v1), (2, .int v2)] [] h none r := by
  intro n
  induction n with
  | zero =>
    intro v0 v1 v2 h r hyp
    cases hyp
  | succ n ih =>
    intro v0 v1 v2 h r hyp
    unfold b_M_copies_2 at hyp
    refine rt_st (pc1 := 5) (fun _ _ B => go_iload_n 2 d_M_copies_2 rfl (go_bipush (v := (42 : Int32)) d_M_copies_3 (by decide) B)) ?_
    by_cases c1 : (42 : Int32) ≤ v2
    · replace hyp := (if_pos c1).symm.trans hyp
      refine rt_st (pc1 := 20) (fun _ _ B => go_icmp_ge_t 20 d_M_copies_5 rfl c1 B) ?_
      exact rt_eq0 hyp (rt_void d_M_copies_20 rfl)
    · replace hyp := (if_neg c1).symm.trans hyp
      obtain ⟨x2, e3, hyp⟩ := Option.bind_eq_some_iff.mp hyp
      obtain ⟨h4, e5, hyp⟩ := Option.bind_eq_some_iff.mp hyp
      refine rt_st (pc1 := 2) (fun _ _ B => go_icmp_ge_f d_M_copies_5 rfl c1 (go_aload_n 1 d_M_copies_8 rfl (go_iload_n 2 d_M_copies_9 rfl (go_aload_n 0 d_M_copies_10 rfl (go_iload_n 2 d_M_copies_11 rfl (go_iald d_M_copies_12 e3 (go_iast d_M_copies_13 e5 (go_iinc (v := (v2 + (1 : Int32))) (lv1 := [(2, .int (v2 + (1 : Int32))), (0, va_rf v0), (1, va_rf v1)]) 2 d_M_copies_14 rfl rfl (by decide) (by first | (simp [mj_s1, mj_s2, mj_rfc, mj_cti, mj_ctl]; done) | (simp [mj_s1, mj_s2, mj_rfc, mj_cti, mj_ctl]; decide)) (go_goto 2 d_M_copies_17 rfl B))))))))) ?_
      refine rt_sub [1, 2, 0] (lv1 := [(0, va_rf v0), (1, va_rf v1), (2, .int (v2 + (1 : Int32)))]) rfl ?_
      exact ih _ _ _ _ _ hyp
set_option maxHeartbeats 4000000 in
set_option maxRecDepth 200000 in
theorem t_M_copies (F : Nat) (v0 : Option Nat) (v1 : Option Nat) (h : MH) (r : MH) (hyp : f_M_copies F v0 v1 h = some r) : Mt mi_M_copies 1 [va_rf v0, va_rf v1] h none r := by
  refine Mt.rt (lv := [(0, va_rf v0), (1, va_rf v1)]) (by decide +kernel) (by simp [lv_args, mj_rfc, mj_cti, mj_ctl]) (by simp [mj_rfc, mj_cti, mj_ctl]) ?_
  unfold f_M_copies at hyp
  refine rt_st (pc1 := 2) (fun _ _ B => go_iconst (v := (0 : Int32)) d_M_copies_0 (by decide) (go_istore_n (lv1 := [(2, .int (0 : Int32)), (0, va_rf v0), (1, va_rf v1)]) d_M_copies_1 (by decide) (by first | (simp [mj_s1, mj_s2, mj_rfc, mj_cti, mj_ctl]; done) | (simp [mj_s1, mj_s2, mj_rfc, mj_cti, mj_ctl]; decide)) B)) ?_
  refine rt_sub [1, 2, 0] (lv1 := [(0, va_rf v0), (1, va_rf v1), (2, .int (0 : Int32))]) rfl ?_
  exact p_M_copies_2 F F _ _ _ _ r hyp
/-! WideTurnModel.basin()I -/
def b_M_basin_17 (F : Nat) : Nat → (Option Nat) → (Int32) → (MH) → (Option (Int32 × MH))
  | 0 => fun _ _ _ => none
  | n + 1 => fun v0 v1 h => 
    if (42 : Int32) ≤ v1 then
      Option.bind (gfr h v0 [11] 14) fun x2 =>
      Option.bind (ast h x2 0 (0 : Int32) (1 : Int32)) fun h4 =>
      Option.bind (onc h4 v0 11 (f_M_advances F v0 h4)) fun h6 =>
      Option.bind (onc h6 v0 11 (f_M_readsHead F v0 h6)) fun h8 =>
      Option.bind (onc h8 v0 11 (f_M_readsRest F v0 h8)) fun h10 =>
      Option.bind (pfv h10 v0 [11] 2 (.int (0 : Int32))) fun h12 =>
      Option.bind (onc h12 v0 11 (f_M_isWell v0 h12)) fun x14 =>
      if x14 = 0 then
        Option.bind (gfi h12 v0 [11] 7) fun x17 =>
        Option.bind (pfv h12 v0 [11] 9 (.int x17)) fun h19 =>
        Option.bind (gfi h19 v0 [11] 8) fun x21 =>
        some (((-1000100 : Int32) - x21), h19)
      else
        Option.bind (gfr h12 v0 [11] 14) fun x23 =>
        Option.bind (gfr h12 v0 [11] 15) fun x25 =>
        Option.bind (f_M_copies F x23 x25 h12) fun h27 =>
        Option.bind (pfv h27 v0 [11] 18 (.int (0 : Int32))) fun h29 =>
        Option.bind (gfr h29 v0 [11] 15) fun x31 =>
        Option.bind (ald h29 x31 0 (4 : Int32)) fun x33 =>
        some (x33, h29)
    else
      Option.bind (gfr h v0 [11] 14) fun x35 =>
      Option.bind (ast h x35 0 v1 (0 : Int32)) fun h37 =>
      (b_M_basin_17 F n) v0 (v1 + (1 : Int32)) h37
def f_M_basin (F : Nat) (v0 : Option Nat) (h : MH) : Option (Int32 × MH) :=
  Option.bind (pfv h v0 [11] 0 (.int (0 : Int32))) fun h1 =>
  Option.bind (pfv h1 v0 [11] 7 (.int (0 : Int32))) fun h3 =>
  Option.bind (pfv h3 v0 [11] 3 (.int (0 : Int32))) fun h5 =>
  b_M_basin_17 F F v0 (0 : Int32) h5
set_option maxHeartbeats 4000000 in
set_option maxRecDepth 200000 in
theorem p_M_basin_17 (F : Nat) {h0 : MH} : ∀ (n : Nat) (v0 : Option Nat) (v1 : Int32) (h : MH) (r : (Int32 × MH)), b_M_basin_17 F  n v0 v1 h = some r → Rt mi_M_basin 5 h0 17 [(0, va_rf v0), (1, .int v1)] [] h (some (.int r.1)) r.2 := by
  intro n
  induction n with
  | zero =>
    intro v0 v1 h r hyp
    cases hyp
  | succ n ih =>
    intro v0 v1 h r hyp
    unfold b_M_basin_17 at hyp
    refine rt_st (pc1 := 20) (fun _ _ B => go_iload_n 1 d_M_basin_17 rfl (go_bipush (v := (42 : Int32)) d_M_basin_18 (by decide) B)) ?_
    by_cases c1 : (42 : Int32) ≤ v1
    · replace hyp := (if_pos c1).symm.trans hyp
      obtain ⟨x2, e3, hyp⟩ := Option.bind_eq_some_iff.mp hyp
      obtain ⟨h4, e5, hyp⟩ := Option.bind_eq_some_iff.mp hyp
      obtain ⟨h6, e7, hyp⟩ := Option.bind_eq_some_iff.mp hyp
      obtain ⟨h8, e9, hyp⟩ := Option.bind_eq_some_iff.mp hyp
      obtain ⟨h10, e11, hyp⟩ := Option.bind_eq_some_iff.mp hyp
      obtain ⟨h12, e13, hyp⟩ := Option.bind_eq_some_iff.mp hyp
      obtain ⟨x14, e15, hyp⟩ := Option.bind_eq_some_iff.mp hyp
      refine rt_st (pc1 := 64) (fun _ _ B => go_icmp_ge_t 36 d_M_basin_20 rfl c1 (go_aload_n 0 d_M_basin_36 rfl (go_gfr d_M_basin_37 fd_11_14 w1003 e3 (go_iconst (v := (0 : Int32)) d_M_basin_40 (by decide) (go_iconst (v := (1 : Int32)) d_M_basin_41 (by decide) (go_iast d_M_basin_42 e5 (go_aload_n 0 d_M_basin_43 rfl (go_callV0 (q := q_11) (st := []) [] (t_M_advances F v0 h4 _ (onc_spec e7).2) mm_M_advances (by decide) d_M_basin_44 (onc_spec e7).1 rfl rfl w1114 w1116 w32 rfl (Nat.le_of_ble_eq_true rfl) rfl (go_aload_n 0 d_M_basin_47 rfl (go_callV0 (q := q_11) (st := []) [] (t_M_readsHead F v0 h6 _ (onc_spec e9).2) mm_M_readsHead (by decide) d_M_basin_48 (onc_spec e9).1 rfl rfl w1122 w1124 w34 rfl (Nat.le_of_ble_eq_true rfl) rfl (go_aload_n 0 d_M_basin_51 rfl (go_callV0 (q := q_11) (st := []) [] (t_M_readsRest F v0 h8 _ (onc_spec e11).2) mm_M_readsRest (by decide) d_M_basin_52 (onc_spec e11).1 rfl rfl w1142 w1144 w39 rfl (Nat.le_of_ble_eq_true rfl) rfl (go_aload_n 0 d_M_basin_55 rfl (go_iconst (v := (0 : Int32)) d_M_basin_56 (by decide) (go_pfi d_M_basin_57 fd_11_2 w991 (fun q => by cases q) e13 (go_aload_n 0 d_M_basin_60 rfl (go_callV1 (q := q_11) (st := []) [] (t_M_isWell v0 h12 _ (onc_spec e15).2) mm_M_isWell (by decide) d_M_basin_61 (onc_spec e15).1 rfl rfl w1134 w1136 w37 rfl (Nat.le_of_ble_eq_true rfl) rfl B))))))))))))))))) ?_
      by_cases c16 : x14 = 0
      · replace hyp := (if_pos c16).symm.trans hyp
        obtain ⟨x17, e18, hyp⟩ := Option.bind_eq_some_iff.mp hyp
        obtain ⟨h19, e20, hyp⟩ := Option.bind_eq_some_iff.mp hyp
        obtain ⟨x21, e22, hyp⟩ := Option.bind_eq_some_iff.mp hyp
        refine rt_st (pc1 := 82) (fun _ _ B => go_if_ne_f d_M_basin_64 rfl c16 (go_aload_n 0 d_M_basin_67 rfl (go_aload_n 0 d_M_basin_68 rfl (go_gfi d_M_basin_69 fd_11_7 w996 e18 (go_pfi d_M_basin_72 fd_11_9 w998 (fun q => by cases q) e20 (go_ldc (v := (-1000100 : Int32)) d_M_basin_75 w1152 (go_aload_n 0 d_M_basin_77 rfl (go_gfi d_M_basin_78 fd_11_8 w997 e22 (go_isub d_M_basin_81 B))))))))) ?_
        exact rt_eqW Value.int hyp (rt_int d_M_basin_82 rfl)
      · replace hyp := (if_neg c16).symm.trans hyp
        obtain ⟨x23, e24, hyp⟩ := Option.bind_eq_some_iff.mp hyp
        obtain ⟨x25, e26, hyp⟩ := Option.bind_eq_some_iff.mp hyp
        obtain ⟨h27, e28, hyp⟩ := Option.bind_eq_some_iff.mp hyp
        obtain ⟨h29, e30, hyp⟩ := Option.bind_eq_some_iff.mp hyp
        obtain ⟨x31, e32, hyp⟩ := Option.bind_eq_some_iff.mp hyp
        obtain ⟨x33, e34, hyp⟩ := Option.bind_eq_some_iff.mp hyp
        refine rt_st (pc1 := 105) (fun _ _ B => go_if_ne_t 83 d_M_basin_64 rfl c16 (go_aload_n 0 d_M_basin_83 rfl (go_gfr d_M_basin_84 fd_11_14 w1003 e24 (go_aload_n 0 d_M_basin_87 rfl (go_gfr d_M_basin_88 fd_11_15 w1004 e26 (go_callS0 (st := []) [va_rf x23, va_rf x25] (t_M_copies F x23 x25 h12 _ e28) mm_M_copies (by decide) d_M_basin_91 w1153 w1154 rfl (Nat.le_of_ble_eq_true rfl) rfl (go_aload_n 0 d_M_basin_94 rfl (go_iconst (v := (0 : Int32)) d_M_basin_95 (by decide) (go_pfi d_M_basin_96 fd_11_18 w1007 (fun q => by cases q) e30 (go_aload_n 0 d_M_basin_99 rfl (go_gfr d_M_basin_100 fd_11_15 w1004 e32 (go_iconst (v := (4 : Int32)) d_M_basin_103 (by decide) (go_iald d_M_basin_104 e34 B))))))))))))) ?_
        exact rt_eqW Value.int hyp (rt_int d_M_basin_105 rfl)
    · replace hyp := (if_neg c1).symm.trans hyp
      obtain ⟨x35, e36, hyp⟩ := Option.bind_eq_some_iff.mp hyp
      obtain ⟨h37, e38, hyp⟩ := Option.bind_eq_some_iff.mp hyp
      refine rt_st (pc1 := 17) (fun _ _ B => go_icmp_ge_f d_M_basin_20 rfl c1 (go_aload_n 0 d_M_basin_23 rfl (go_gfr d_M_basin_24 fd_11_14 w1003 e36 (go_iload_n 1 d_M_basin_27 rfl (go_iconst (v := (0 : Int32)) d_M_basin_28 (by decide) (go_iast d_M_basin_29 e38 (go_iinc (v := (v1 + (1 : Int32))) (lv1 := [(1, .int (v1 + (1 : Int32))), (0, va_rf v0)]) 1 d_M_basin_30 rfl rfl (by decide) (by first | (simp [mj_s1, mj_s2, mj_rfc, mj_cti, mj_ctl]; done) | (simp [mj_s1, mj_s2, mj_rfc, mj_cti, mj_ctl]; decide)) (go_goto 17 d_M_basin_33 rfl B)))))))) ?_
      refine rt_sub [1, 0] (lv1 := [(0, va_rf v0), (1, .int (v1 + (1 : Int32)))]) rfl ?_
      exact ih _ _ _ _ hyp
set_option maxHeartbeats 4000000 in
set_option maxRecDepth 200000 in
theorem t_M_basin (F : Nat) (v0 : Option Nat) (h : MH) (r : (Int32 × MH)) (hyp : f_M_basin F v0 h = some r) : Mt mi_M_basin 5 [va_rf v0] h (some (.int r.1)) r.2 := by
  refine Mt.rt (lv := [(0, va_rf v0)]) (by decide +kernel) (by simp [lv_args, mj_rfc, mj_cti, mj_ctl]) (by simp [mj_rfc, mj_cti, mj_ctl]) ?_
  unfold f_M_basin at hyp
  obtain ⟨h1, e2, hyp⟩ := Option.bind_eq_some_iff.mp hyp
  obtain ⟨h3, e4, hyp⟩ := Option.bind_eq_some_iff.mp hyp
  obtain ⟨h5, e6, hyp⟩ := Option.bind_eq_some_iff.mp hyp
  refine rt_st (pc1 := 17) (fun _ _ B => go_aload_n 0 d_M_basin_0 rfl (go_iconst (v := (0 : Int32)) d_M_basin_1 (by decide) (go_pfi d_M_basin_2 fd_11_0 w989 (fun q => by cases q) e2 (go_aload_n 0 d_M_basin_5 rfl (go_iconst (v := (0 : Int32)) d_M_basin_6 (by decide) (go_pfi d_M_basin_7 fd_11_7 w996 (fun q => by cases q) e4 (go_aload_n 0 d_M_basin_10 rfl (go_iconst (v := (0 : Int32)) d_M_basin_11 (by decide) (go_pfi d_M_basin_12 fd_11_3 w992 (fun q => by cases q) e6 (go_iconst (v := (0 : Int32)) d_M_basin_15 (by decide) (go_istore_n (lv1 := [(1, .int (0 : Int32)), (0, va_rf v0)]) d_M_basin_16 (by decide) (by first | (simp [mj_s1, mj_s2, mj_rfc, mj_cti, mj_ctl]; done) | (simp [mj_s1, mj_s2, mj_rfc, mj_cti, mj_ctl]; decide)) B))))))))))) ?_
  refine rt_sub [1, 0] (lv1 := [(0, va_rf v0), (1, .int (0 : Int32))]) rfl ?_
  exact p_M_basin_17 F F _ _ _ r hyp
/-! WideTurnModel.fault()I -/
def f_M_fault (v0 : Option Nat) (h : MH) : Option (Int32 × MH) :=
  Option.bind (pfv h v0 [11] 0 (.int (0 : Int32))) fun h1 =>
  Option.bind (gfi h1 v0 [11] 9) fun x3 =>
  some (x3, h1)
set_option maxHeartbeats 4000000 in
set_option maxRecDepth 200000 in
theorem t_M_fault (v0 : Option Nat) (h : MH) (r : (Int32 × MH)) (hyp : f_M_fault v0 h = some r) : Mt mi_M_fault 1 [va_rf v0] h (some (.int r.1)) r.2 := by
  refine Mt.rt (lv := [(0, va_rf v0)]) (by decide +kernel) (by simp [lv_args, mj_rfc, mj_cti, mj_ctl]) (by simp [mj_rfc, mj_cti, mj_ctl]) ?_
  unfold f_M_fault at hyp
  obtain ⟨h1, e2, hyp⟩ := Option.bind_eq_some_iff.mp hyp
  obtain ⟨x3, e4, hyp⟩ := Option.bind_eq_some_iff.mp hyp
  refine rt_st (pc1 := 9) (fun _ _ B => go_aload_n 0 d_M_fault_0 rfl (go_iconst (v := (0 : Int32)) d_M_fault_1 (by decide) (go_pfi d_M_fault_2 fd_11_0 w989 (fun q => by cases q) e2 (go_aload_n 0 d_M_fault_5 rfl (go_gfi d_M_fault_6 fd_11_9 w998 e4 B))))) ?_
  exact rt_eqW Value.int hyp (rt_int d_M_fault_9 rfl)
/-! WideTurnModel.notes()V -/
def b_M_notes_47 (F : Nat) : Nat → (Option Nat) → (Int32) → (MH) → (Option MH)
  | 0 => fun _ _ _ => none
  | n + 1 => fun v0 v1 h => 
    if (42 : Int32) ≤ v1 then
      Option.bind (gfi h v0 [11] 18) fun x2 =>
      Option.bind (pfv h v0 [11] 18 (.int (x2 + (1 : Int32)))) fun h4 =>
      some h4
    else
      Option.bind (gfr h v0 [11] 17) fun x6 =>
      Option.bind (gfi h v0 [11] 18) fun x8 =>
      Option.bind (gfr h v0 [11] 15) fun x10 =>
      Option.bind (ald h x10 0 v1) fun x12 =>
      Option.bind (ast h x6 0 (((42 : Int32) * x8) + v1) x12) fun h14 =>
      (b_M_notes_47 F n) v0 (v1 + (1 : Int32)) h14
def b_M_notes_45 (F : Nat) : (Option Nat) → (MH) → (Option MH) := fun v0 h => 
  b_M_notes_47 F F v0 (0 : Int32) h
def b_M_notes_11 (F : Nat) : Nat → (Option Nat) → (Int32) → (MH) → (Option MH)
  | 0 => fun _ _ _ => none
  | n + 1 => fun v0 v1 h => 
    if (966 : Int32) ≤ v1 then
      Option.bind (pfv h v0 [11] 18 (.int (23 : Int32))) fun h2 =>
      b_M_notes_45 F v0 h2
    else
      Option.bind (gfr h v0 [11] 17) fun x4 =>
      Option.bind (gfr h v0 [11] 17) fun x6 =>
      Option.bind (ald h x6 0 (v1 + (42 : Int32))) fun x8 =>
      Option.bind (ast h x4 0 v1 x8) fun h10 =>
      (b_M_notes_11 F n) v0 (v1 + (1 : Int32)) h10
def f_M_notes (F : Nat) (v0 : Option Nat) (h : MH) : Option MH :=
  Option.bind (gfi h v0 [11] 18) fun x1 =>
  if x1 = (24 : Int32) then
    b_M_notes_11 F F v0 (0 : Int32) h
  else
    b_M_notes_45 F v0 h
set_option maxHeartbeats 4000000 in
set_option maxRecDepth 200000 in
theorem p_M_notes_47 (F : Nat) {h0 : MH} : ∀ (n : Nat) (v0 : Option Nat) (v1 : Int32) (h : MH) (r : MH), b_M_notes_47 F  n v0 v1 h = some r → Rt mi_M_notes 1 h0 47 [(0, va_rf v0), (1, .int v1)] [] h none r := by
  intro n
  induction n with
  | zero =>
    intro v0 v1 h r hyp
    cases hyp
  | succ n ih =>
    intro v0 v1 h r hyp
    unfold b_M_notes_47 at hyp
    refine rt_st (pc1 := 50) (fun _ _ B => go_iload_n 1 d_M_notes_47 rfl (go_bipush (v := (42 : Int32)) d_M_notes_48 (by decide) B)) ?_
    by_cases c1 : (42 : Int32) ≤ v1
    · replace hyp := (if_pos c1).symm.trans hyp
      obtain ⟨x2, e3, hyp⟩ := Option.bind_eq_some_iff.mp hyp
      obtain ⟨h4, e5, hyp⟩ := Option.bind_eq_some_iff.mp hyp
      refine rt_st (pc1 := 89) (fun _ _ B => go_icmp_ge_t 79 d_M_notes_50 rfl c1 (go_aload_n 0 d_M_notes_79 rfl (go_dup d_M_notes_80 (mj_rfc _) (go_gfi d_M_notes_81 fd_11_18 w1007 e3 (go_iconst (v := (1 : Int32)) d_M_notes_84 (by decide) (go_iadd d_M_notes_85 (go_pfi d_M_notes_86 fd_11_18 w1007 (fun q => by cases q) e5 B))))))) ?_
      exact rt_eq0 hyp (rt_void d_M_notes_89 rfl)
    · replace hyp := (if_neg c1).symm.trans hyp
      obtain ⟨x6, e7, hyp⟩ := Option.bind_eq_some_iff.mp hyp
      obtain ⟨x8, e9, hyp⟩ := Option.bind_eq_some_iff.mp hyp
      obtain ⟨x10, e11, hyp⟩ := Option.bind_eq_some_iff.mp hyp
      obtain ⟨x12, e13, hyp⟩ := Option.bind_eq_some_iff.mp hyp
      obtain ⟨h14, e15, hyp⟩ := Option.bind_eq_some_iff.mp hyp
      refine rt_st (pc1 := 47) (fun _ _ B => go_icmp_ge_f d_M_notes_50 rfl c1 (go_aload_n 0 d_M_notes_53 rfl (go_gfr d_M_notes_54 fd_11_17 w1006 e7 (go_bipush (v := (42 : Int32)) d_M_notes_57 (by decide) (go_aload_n 0 d_M_notes_59 rfl (go_gfi d_M_notes_60 fd_11_18 w1007 e9 (go_imul d_M_notes_63 (go_iload_n 1 d_M_notes_64 rfl (go_iadd d_M_notes_65 (go_aload_n 0 d_M_notes_66 rfl (go_gfr d_M_notes_67 fd_11_15 w1004 e11 (go_iload_n 1 d_M_notes_70 rfl (go_iald d_M_notes_71 e13 (go_iast d_M_notes_72 e15 (go_iinc (v := (v1 + (1 : Int32))) (lv1 := [(1, .int (v1 + (1 : Int32))), (0, va_rf v0)]) 1 d_M_notes_73 rfl rfl (by decide) (by first | (simp [mj_s1, mj_s2, mj_rfc, mj_cti, mj_ctl]; done) | (simp [mj_s1, mj_s2, mj_rfc, mj_cti, mj_ctl]; decide)) (go_goto 47 d_M_notes_76 rfl B)))))))))))))))) ?_
      refine rt_sub [1, 0] (lv1 := [(0, va_rf v0), (1, .int (v1 + (1 : Int32)))]) rfl ?_
      exact ih _ _ _ _ hyp
set_option maxHeartbeats 4000000 in
set_option maxRecDepth 200000 in
theorem p_M_notes_45 (F : Nat) {h0 : MH} (v0 : Option Nat) (h : MH) (r : MH) : b_M_notes_45 F  v0 h = some r → Rt mi_M_notes 1 h0 45 [(0, va_rf v0)] [] h none r := by
  intro hyp
  unfold b_M_notes_45 at hyp
  refine rt_st (pc1 := 47) (fun _ _ B => go_iconst (v := (0 : Int32)) d_M_notes_45 (by decide) (go_istore_n (lv1 := [(1, .int (0 : Int32)), (0, va_rf v0)]) d_M_notes_46 (by decide) (by first | (simp [mj_s1, mj_s2, mj_rfc, mj_cti, mj_ctl]; done) | (simp [mj_s1, mj_s2, mj_rfc, mj_cti, mj_ctl]; decide)) B)) ?_
  refine rt_sub [1, 0] (lv1 := [(0, va_rf v0), (1, .int (0 : Int32))]) rfl ?_
  exact p_M_notes_47 F F _ _ _ r hyp
set_option maxHeartbeats 4000000 in
set_option maxRecDepth 200000 in
theorem p_M_notes_11 (F : Nat) {h0 : MH} : ∀ (n : Nat) (v0 : Option Nat) (v1 : Int32) (h : MH) (r : MH), b_M_notes_11 F  n v0 v1 h = some r → Rt mi_M_notes 1 h0 11 [(0, va_rf v0), (1, .int v1)] [] h none r := by
  intro n
  induction n with
  | zero =>
    intro v0 v1 h r hyp
    cases hyp
  | succ n ih =>
    intro v0 v1 h r hyp
    unfold b_M_notes_11 at hyp
    refine rt_st (pc1 := 15) (fun _ _ B => go_iload_n 1 d_M_notes_11 rfl (go_sipush (v := (966 : Int32)) d_M_notes_12 (by decide) B)) ?_
    by_cases c1 : (966 : Int32) ≤ v1
    · replace hyp := (if_pos c1).symm.trans hyp
      obtain ⟨h2, e3, hyp⟩ := Option.bind_eq_some_iff.mp hyp
      refine rt_st (pc1 := 45) (fun _ _ B => go_icmp_ge_t 39 d_M_notes_15 rfl c1 (go_aload_n 0 d_M_notes_39 rfl (go_bipush (v := (23 : Int32)) d_M_notes_40 (by decide) (go_pfi d_M_notes_42 fd_11_18 w1007 (fun q => by cases q) e3 B)))) ?_
      refine rt_sub [0] (lv1 := [(0, va_rf v0)]) rfl ?_
      exact p_M_notes_45 F _ _ r hyp
    · replace hyp := (if_neg c1).symm.trans hyp
      obtain ⟨x4, e5, hyp⟩ := Option.bind_eq_some_iff.mp hyp
      obtain ⟨x6, e7, hyp⟩ := Option.bind_eq_some_iff.mp hyp
      obtain ⟨x8, e9, hyp⟩ := Option.bind_eq_some_iff.mp hyp
      obtain ⟨h10, e11, hyp⟩ := Option.bind_eq_some_iff.mp hyp
      refine rt_st (pc1 := 11) (fun _ _ B => go_icmp_ge_f d_M_notes_15 rfl c1 (go_aload_n 0 d_M_notes_18 rfl (go_gfr d_M_notes_19 fd_11_17 w1006 e5 (go_iload_n 1 d_M_notes_22 rfl (go_aload_n 0 d_M_notes_23 rfl (go_gfr d_M_notes_24 fd_11_17 w1006 e7 (go_iload_n 1 d_M_notes_27 rfl (go_bipush (v := (42 : Int32)) d_M_notes_28 (by decide) (go_iadd d_M_notes_30 (go_iald d_M_notes_31 e9 (go_iast d_M_notes_32 e11 (go_iinc (v := (v1 + (1 : Int32))) (lv1 := [(1, .int (v1 + (1 : Int32))), (0, va_rf v0)]) 1 d_M_notes_33 rfl rfl (by decide) (by first | (simp [mj_s1, mj_s2, mj_rfc, mj_cti, mj_ctl]; done) | (simp [mj_s1, mj_s2, mj_rfc, mj_cti, mj_ctl]; decide)) (go_goto 11 d_M_notes_36 rfl B))))))))))))) ?_
      refine rt_sub [1, 0] (lv1 := [(0, va_rf v0), (1, .int (v1 + (1 : Int32)))]) rfl ?_
      exact ih _ _ _ _ hyp
set_option maxHeartbeats 4000000 in
set_option maxRecDepth 200000 in
theorem t_M_notes (F : Nat) (v0 : Option Nat) (h : MH) (r : MH) (hyp : f_M_notes F v0 h = some r) : Mt mi_M_notes 1 [va_rf v0] h none r := by
  refine Mt.rt (lv := [(0, va_rf v0)]) (by decide +kernel) (by simp [lv_args, mj_rfc, mj_cti, mj_ctl]) (by simp [mj_rfc, mj_cti, mj_ctl]) ?_
  unfold f_M_notes at hyp
  obtain ⟨x1, e2, hyp⟩ := Option.bind_eq_some_iff.mp hyp
  refine rt_st (pc1 := 6) (fun _ _ B => go_aload_n 0 d_M_notes_0 rfl (go_gfi d_M_notes_1 fd_11_18 w1007 e2 (go_bipush (v := (24 : Int32)) d_M_notes_4 (by decide) B))) ?_
  by_cases c3 : x1 = (24 : Int32)
  · replace hyp := (if_pos c3).symm.trans hyp
    refine rt_st (pc1 := 11) (fun _ _ B => go_icmp_ne_f d_M_notes_6 rfl c3 (go_iconst (v := (0 : Int32)) d_M_notes_9 (by decide) (go_istore_n (lv1 := [(1, .int (0 : Int32)), (0, va_rf v0)]) d_M_notes_10 (by decide) (by first | (simp [mj_s1, mj_s2, mj_rfc, mj_cti, mj_ctl]; done) | (simp [mj_s1, mj_s2, mj_rfc, mj_cti, mj_ctl]; decide)) B))) ?_
    refine rt_sub [1, 0] (lv1 := [(0, va_rf v0), (1, .int (0 : Int32))]) rfl ?_
    exact p_M_notes_11 F F _ _ _ r hyp
  · replace hyp := (if_neg c3).symm.trans hyp
    refine rt_st (pc1 := 45) (fun _ _ B => go_icmp_ne_t 45 d_M_notes_6 rfl c3 B) ?_
    exact p_M_notes_45 F _ _ r hyp
/-! WideTurnModel.undo()I -/
def b_M_undo_27 (F : Nat) : Nat → (Option Nat) → (Int32) → (MH) → (Option (Int32 × MH))
  | 0 => fun _ _ _ => none
  | n + 1 => fun v0 v1 h => 
    if (42 : Int32) ≤ v1 then
      Option.bind (gfi h v0 [11] 18) fun x2 =>
      some (x2, h)
    else
      Option.bind (gfr h v0 [11] 15) fun x4 =>
      Option.bind (gfr h v0 [11] 17) fun x6 =>
      Option.bind (gfi h v0 [11] 18) fun x8 =>
      Option.bind (ald h x6 0 (((42 : Int32) * x8) + v1)) fun x10 =>
      Option.bind (ast h x4 0 v1 x10) fun h12 =>
      (b_M_undo_27 F n) v0 (v1 + (1 : Int32)) h12
def f_M_undo (F : Nat) (v0 : Option Nat) (h : MH) : Option (Int32 × MH) :=
  Option.bind (pfv h v0 [11] 0 (.int (0 : Int32))) fun h1 =>
  Option.bind (gfi h1 v0 [11] 18) fun x3 =>
  if x3 = 0 then
    some ((-1000002 : Int32), h1)
  else
    Option.bind (gfi h1 v0 [11] 18) fun x6 =>
    Option.bind (pfv h1 v0 [11] 18 (.int (x6 - (1 : Int32)))) fun h8 =>
    b_M_undo_27 F F v0 (0 : Int32) h8
set_option maxHeartbeats 4000000 in
set_option maxRecDepth 200000 in
theorem p_M_undo_27 (F : Nat) {h0 : MH} : ∀ (n : Nat) (v0 : Option Nat) (v1 : Int32) (h : MH) (r : (Int32 × MH)), b_M_undo_27 F  n v0 v1 h = some r → Rt mi_M_undo 1 h0 27 [(0, va_rf v0), (1, .int v1)] [] h (some (.int r.1)) r.2 := by
  intro n
  induction n with
  | zero =>
    intro v0 v1 h r hyp
    cases hyp
  | succ n ih =>
    intro v0 v1 h r hyp
    unfold b_M_undo_27 at hyp
    refine rt_st (pc1 := 30) (fun _ _ B => go_iload_n 1 d_M_undo_27 rfl (go_bipush (v := (42 : Int32)) d_M_undo_28 (by decide) B)) ?_
    by_cases c1 : (42 : Int32) ≤ v1
    · replace hyp := (if_pos c1).symm.trans hyp
      obtain ⟨x2, e3, hyp⟩ := Option.bind_eq_some_iff.mp hyp
      refine rt_st (pc1 := 63) (fun _ _ B => go_icmp_ge_t 59 d_M_undo_30 rfl c1 (go_aload_n 0 d_M_undo_59 rfl (go_gfi d_M_undo_60 fd_11_18 w1007 e3 B))) ?_
      exact rt_eqW Value.int hyp (rt_int d_M_undo_63 rfl)
    · replace hyp := (if_neg c1).symm.trans hyp
      obtain ⟨x4, e5, hyp⟩ := Option.bind_eq_some_iff.mp hyp
      obtain ⟨x6, e7, hyp⟩ := Option.bind_eq_some_iff.mp hyp
      obtain ⟨x8, e9, hyp⟩ := Option.bind_eq_some_iff.mp hyp
      obtain ⟨x10, e11, hyp⟩ := Option.bind_eq_some_iff.mp hyp
      obtain ⟨h12, e13, hyp⟩ := Option.bind_eq_some_iff.mp hyp
      refine rt_st (pc1 := 27) (fun _ _ B => go_icmp_ge_f d_M_undo_30 rfl c1 (go_aload_n 0 d_M_undo_33 rfl (go_gfr d_M_undo_34 fd_11_15 w1004 e5 (go_iload_n 1 d_M_undo_37 rfl (go_aload_n 0 d_M_undo_38 rfl (go_gfr d_M_undo_39 fd_11_17 w1006 e7 (go_bipush (v := (42 : Int32)) d_M_undo_42 (by decide) (go_aload_n 0 d_M_undo_44 rfl (go_gfi d_M_undo_45 fd_11_18 w1007 e9 (go_imul d_M_undo_48 (go_iload_n 1 d_M_undo_49 rfl (go_iadd d_M_undo_50 (go_iald d_M_undo_51 e11 (go_iast d_M_undo_52 e13 (go_iinc (v := (v1 + (1 : Int32))) (lv1 := [(1, .int (v1 + (1 : Int32))), (0, va_rf v0)]) 1 d_M_undo_53 rfl rfl (by decide) (by first | (simp [mj_s1, mj_s2, mj_rfc, mj_cti, mj_ctl]; done) | (simp [mj_s1, mj_s2, mj_rfc, mj_cti, mj_ctl]; decide)) (go_goto 27 d_M_undo_56 rfl B)))))))))))))))) ?_
      refine rt_sub [1, 0] (lv1 := [(0, va_rf v0), (1, .int (v1 + (1 : Int32)))]) rfl ?_
      exact ih _ _ _ _ hyp
set_option maxHeartbeats 4000000 in
set_option maxRecDepth 200000 in
theorem t_M_undo (F : Nat) (v0 : Option Nat) (h : MH) (r : (Int32 × MH)) (hyp : f_M_undo F v0 h = some r) : Mt mi_M_undo 1 [va_rf v0] h (some (.int r.1)) r.2 := by
  refine Mt.rt (lv := [(0, va_rf v0)]) (by decide +kernel) (by simp [lv_args, mj_rfc, mj_cti, mj_ctl]) (by simp [mj_rfc, mj_cti, mj_ctl]) ?_
  unfold f_M_undo at hyp
  obtain ⟨h1, e2, hyp⟩ := Option.bind_eq_some_iff.mp hyp
  obtain ⟨x3, e4, hyp⟩ := Option.bind_eq_some_iff.mp hyp
  refine rt_st (pc1 := 9) (fun _ _ B => go_aload_n 0 d_M_undo_0 rfl (go_iconst (v := (0 : Int32)) d_M_undo_1 (by decide) (go_pfi d_M_undo_2 fd_11_0 w989 (fun q => by cases q) e2 (go_aload_n 0 d_M_undo_5 rfl (go_gfi d_M_undo_6 fd_11_18 w1007 e4 B))))) ?_
  by_cases c5 : x3 = 0
  · replace hyp := (if_pos c5).symm.trans hyp
    refine rt_st (pc1 := 14) (fun _ _ B => go_if_ne_f d_M_undo_9 rfl c5 (go_ldc (v := (-1000002 : Int32)) d_M_undo_12 w1164 B)) ?_
    exact rt_eqW Value.int hyp (rt_int d_M_undo_14 rfl)
  · replace hyp := (if_neg c5).symm.trans hyp
    obtain ⟨x6, e7, hyp⟩ := Option.bind_eq_some_iff.mp hyp
    obtain ⟨h8, e9, hyp⟩ := Option.bind_eq_some_iff.mp hyp
    refine rt_st (pc1 := 27) (fun _ _ B => go_if_ne_t 15 d_M_undo_9 rfl c5 (go_aload_n 0 d_M_undo_15 rfl (go_dup d_M_undo_16 (mj_rfc _) (go_gfi d_M_undo_17 fd_11_18 w1007 e7 (go_iconst (v := (1 : Int32)) d_M_undo_20 (by decide) (go_isub d_M_undo_21 (go_pfi d_M_undo_22 fd_11_18 w1007 (fun q => by cases q) e9 (go_iconst (v := (0 : Int32)) d_M_undo_25 (by decide) (go_istore_n (lv1 := [(1, .int (0 : Int32)), (0, va_rf v0)]) d_M_undo_26 (by decide) (by first | (simp [mj_s1, mj_s2, mj_rfc, mj_cti, mj_ctl]; done) | (simp [mj_s1, mj_s2, mj_rfc, mj_cti, mj_ctl]; decide)) B))))))))) ?_
    refine rt_sub [1, 0] (lv1 := [(0, va_rf v0), (1, .int (0 : Int32))]) rfl ?_
    exact p_M_undo_27 F F _ _ _ r hyp
/-! WideTurnModel.dx(I)I -/
def f_M_dx (v0 : Int32) : Int32 :=
  if (v0 &&& (7 : Int32)) = 0 then
    (1 : Int32)
  else
    if (v0 &&& (7 : Int32)) = (1 : Int32) then
      (1 : Int32)
    else
      if (v0 &&& (7 : Int32)) = (7 : Int32) then
        (1 : Int32)
      else
        if (v0 &&& (7 : Int32)) = (2 : Int32) then
          (0 : Int32)
        else
          if (v0 &&& (7 : Int32)) = (6 : Int32) then
            (0 : Int32)
          else
            (-1 : Int32)
set_option maxHeartbeats 4000000 in
set_option maxRecDepth 200000 in
theorem t_M_dx (v0 : Int32) (h : MH) : Mt mi_M_dx 1 [.int v0] h (some (.int (f_M_dx v0))) h := by
  refine Mt.rt (lv := [(0, .int v0)]) (by decide +kernel) (by simp [lv_args, mj_rfc, mj_cti, mj_ctl]) (by simp [mj_rfc, mj_cti, mj_ctl]) ?_
  unfold f_M_dx
  refine rt_st (pc1 := 6) (fun _ _ B => go_iload_n 0 d_M_dx_0 rfl (go_bipush (v := (7 : Int32)) d_M_dx_1 (by decide) (go_iand d_M_dx_3 (go_istore_n (lv1 := [(1, .int (v0 &&& (7 : Int32))), (0, .int v0)]) d_M_dx_4 (by decide) rfl (go_iload_n 0 d_M_dx_5 rfl B))))) ?_
  by_cases c1 : (v0 &&& (7 : Int32)) = 0
  · rw [if_pos c1]
    refine rt_st (pc1 := 40) (fun _ _ B => go_if_eq_t 20 d_M_dx_6 rfl c1 (go_iconst (v := (1 : Int32)) d_M_dx_20 (by decide) (go_goto 40 d_M_dx_21 rfl B))) ?_
    exact rt_int d_M_dx_40 rfl
  · rw [if_neg c1]
    refine rt_st (pc1 := 11) (fun _ _ B => go_if_eq_f d_M_dx_6 rfl c1 (go_iload_n 0 d_M_dx_9 rfl (go_iconst (v := (1 : Int32)) d_M_dx_10 (by decide) B))) ?_
    by_cases c2 : (v0 &&& (7 : Int32)) = (1 : Int32)
    · rw [if_pos c2]
      refine rt_st (pc1 := 40) (fun _ _ B => go_icmp_eq_t 20 d_M_dx_11 rfl c2 (go_iconst (v := (1 : Int32)) d_M_dx_20 (by decide) (go_goto 40 d_M_dx_21 rfl B))) ?_
      exact rt_int d_M_dx_40 rfl
    · rw [if_neg c2]
      refine rt_st (pc1 := 17) (fun _ _ B => go_icmp_eq_f d_M_dx_11 rfl c2 (go_iload_n 0 d_M_dx_14 rfl (go_bipush (v := (7 : Int32)) d_M_dx_15 (by decide) B))) ?_
      by_cases c3 : (v0 &&& (7 : Int32)) = (7 : Int32)
      · rw [if_pos c3]
        refine rt_st (pc1 := 40) (fun _ _ B => go_icmp_ne_f d_M_dx_17 rfl c3 (go_iconst (v := (1 : Int32)) d_M_dx_20 (by decide) (go_goto 40 d_M_dx_21 rfl B))) ?_
        exact rt_int d_M_dx_40 rfl
      · rw [if_neg c3]
        refine rt_st (pc1 := 26) (fun _ _ B => go_icmp_ne_t 24 d_M_dx_17 rfl c3 (go_iload_n 0 d_M_dx_24 rfl (go_iconst (v := (2 : Int32)) d_M_dx_25 (by decide) B))) ?_
        by_cases c4 : (v0 &&& (7 : Int32)) = (2 : Int32)
        · rw [if_pos c4]
          refine rt_st (pc1 := 40) (fun _ _ B => go_icmp_eq_t 35 d_M_dx_26 rfl c4 (go_iconst (v := (0 : Int32)) d_M_dx_35 (by decide) (go_goto 40 d_M_dx_36 rfl B))) ?_
          exact rt_int d_M_dx_40 rfl
        · rw [if_neg c4]
          refine rt_st (pc1 := 32) (fun _ _ B => go_icmp_eq_f d_M_dx_26 rfl c4 (go_iload_n 0 d_M_dx_29 rfl (go_bipush (v := (6 : Int32)) d_M_dx_30 (by decide) B))) ?_
          by_cases c5 : (v0 &&& (7 : Int32)) = (6 : Int32)
          · rw [if_pos c5]
            refine rt_st (pc1 := 40) (fun _ _ B => go_icmp_ne_f d_M_dx_32 rfl c5 (go_iconst (v := (0 : Int32)) d_M_dx_35 (by decide) (go_goto 40 d_M_dx_36 rfl B))) ?_
            exact rt_int d_M_dx_40 rfl
          · rw [if_neg c5]
            refine rt_st (pc1 := 40) (fun _ _ B => go_icmp_ne_t 39 d_M_dx_32 rfl c5 (go_iconst (v := (-1 : Int32)) d_M_dx_39 (by decide) B)) ?_
            exact rt_int d_M_dx_40 rfl
/-! WideTurnModel.dy(I)I -/
def f_M_dy (v0 : Int32) : Int32 :=
  if (v0 &&& (7 : Int32)) = 0 then
    (0 : Int32)
  else
    if (v0 &&& (7 : Int32)) = (4 : Int32) then
      (0 : Int32)
    else
      if (4 : Int32) ≤ (v0 &&& (7 : Int32)) then
        (1 : Int32)
      else
        (-1 : Int32)
set_option maxHeartbeats 4000000 in
set_option maxRecDepth 200000 in
theorem t_M_dy (v0 : Int32) (h : MH) : Mt mi_M_dy 1 [.int v0] h (some (.int (f_M_dy v0))) h := by
  refine Mt.rt (lv := [(0, .int v0)]) (by decide +kernel) (by simp [lv_args, mj_rfc, mj_cti, mj_ctl]) (by simp [mj_rfc, mj_cti, mj_ctl]) ?_
  unfold f_M_dy
  refine rt_st (pc1 := 6) (fun _ _ B => go_iload_n 0 d_M_dy_0 rfl (go_bipush (v := (7 : Int32)) d_M_dy_1 (by decide) (go_iand d_M_dy_3 (go_istore_n (lv1 := [(1, .int (v0 &&& (7 : Int32))), (0, .int v0)]) d_M_dy_4 (by decide) rfl (go_iload_n 0 d_M_dy_5 rfl B))))) ?_
  by_cases c1 : (v0 &&& (7 : Int32)) = 0
  · rw [if_pos c1]
    refine rt_st (pc1 := 28) (fun _ _ B => go_if_eq_t 14 d_M_dy_6 rfl c1 (go_iconst (v := (0 : Int32)) d_M_dy_14 (by decide) (go_goto 28 d_M_dy_15 rfl B))) ?_
    exact rt_int d_M_dy_28 rfl
  · rw [if_neg c1]
    refine rt_st (pc1 := 11) (fun _ _ B => go_if_eq_f d_M_dy_6 rfl c1 (go_iload_n 0 d_M_dy_9 rfl (go_iconst (v := (4 : Int32)) d_M_dy_10 (by decide) B))) ?_
    by_cases c2 : (v0 &&& (7 : Int32)) = (4 : Int32)
    · rw [if_pos c2]
      refine rt_st (pc1 := 28) (fun _ _ B => go_icmp_ne_f d_M_dy_11 rfl c2 (go_iconst (v := (0 : Int32)) d_M_dy_14 (by decide) (go_goto 28 d_M_dy_15 rfl B))) ?_
      exact rt_int d_M_dy_28 rfl
    · rw [if_neg c2]
      refine rt_st (pc1 := 20) (fun _ _ B => go_icmp_ne_t 18 d_M_dy_11 rfl c2 (go_iload_n 0 d_M_dy_18 rfl (go_iconst (v := (4 : Int32)) d_M_dy_19 (by decide) B))) ?_
      by_cases c3 : (4 : Int32) ≤ (v0 &&& (7 : Int32))
      · rw [if_pos c3]
        refine rt_st (pc1 := 28) (fun _ _ B => go_icmp_ge_t 27 d_M_dy_20 rfl c3 (go_iconst (v := (1 : Int32)) d_M_dy_27 (by decide) B)) ?_
        exact rt_int d_M_dy_28 rfl
      · rw [if_neg c3]
        refine rt_st (pc1 := 28) (fun _ _ B => go_icmp_ge_f d_M_dy_20 rfl c3 (go_iconst (v := (-1 : Int32)) d_M_dy_23 (by decide) (go_goto 28 d_M_dy_24 rfl B))) ?_
        exact rt_int d_M_dy_28 rfl
/-! WideTurnModel.isCell(II)Z -/
def f_M_isCell (v0 : Int32) (v1 : Int32) : Int32 :=
  if (f_M_in v0 (0 : Int32) (5 : Int32)) = 0 then
    (0 : Int32)
  else
    if (f_M_in v1 (0 : Int32) (3 : Int32)) = 0 then
      (0 : Int32)
    else
      (1 : Int32)
set_option maxHeartbeats 4000000 in
set_option maxRecDepth 200000 in
theorem t_M_isCell (v0 : Int32) (v1 : Int32) (h : MH) : Mt mi_M_isCell 2 [.int v0, .int v1] h (some (.int (f_M_isCell v0 v1))) h := by
  refine Mt.rt (lv := [(0, .int v0), (1, .int v1)]) (by decide +kernel) (by simp [lv_args, mj_rfc, mj_cti, mj_ctl]) (by simp [mj_rfc, mj_cti, mj_ctl]) ?_
  unfold f_M_isCell
  refine rt_st (pc1 := 6) (fun _ _ B => go_iload_n 0 d_M_isCell_0 rfl (go_iconst (v := (0 : Int32)) d_M_isCell_1 (by decide) (go_iconst (v := (5 : Int32)) d_M_isCell_2 (by decide) (go_callS1 (st := []) [.int v0, .int (0 : Int32), .int (5 : Int32)] (t_M_in v0 (0 : Int32) (5 : Int32) h) mm_M_in (by decide) d_M_isCell_3 w1073 w1074 rfl (Nat.le_of_ble_eq_true rfl) rfl B)))) ?_
  by_cases c1 : (f_M_in v0 (0 : Int32) (5 : Int32)) = 0
  · rw [if_pos c1]
    refine rt_st (pc1 := 23) (fun _ _ B => go_if_eq_t 22 d_M_isCell_6 rfl c1 (go_iconst (v := (0 : Int32)) d_M_isCell_22 (by decide) B)) ?_
    exact rt_bool d_M_isCell_23 rfl (by decide)
  · rw [if_neg c1]
    refine rt_st (pc1 := 15) (fun _ _ B => go_if_eq_f d_M_isCell_6 rfl c1 (go_iload_n 1 d_M_isCell_9 rfl (go_iconst (v := (0 : Int32)) d_M_isCell_10 (by decide) (go_iconst (v := (3 : Int32)) d_M_isCell_11 (by decide) (go_callS1 (st := []) [.int v1, .int (0 : Int32), .int (3 : Int32)] (t_M_in v1 (0 : Int32) (3 : Int32) h) mm_M_in (by decide) d_M_isCell_12 w1073 w1074 rfl (Nat.le_of_ble_eq_true rfl) rfl B))))) ?_
    by_cases c2 : (f_M_in v1 (0 : Int32) (3 : Int32)) = 0
    · rw [if_pos c2]
      refine rt_st (pc1 := 23) (fun _ _ B => go_if_eq_t 22 d_M_isCell_15 rfl c2 (go_iconst (v := (0 : Int32)) d_M_isCell_22 (by decide) B)) ?_
      exact rt_bool d_M_isCell_23 rfl (by decide)
    · rw [if_neg c2]
      refine rt_st (pc1 := 23) (fun _ _ B => go_if_eq_f d_M_isCell_15 rfl c2 (go_iconst (v := (1 : Int32)) d_M_isCell_18 (by decide) (go_goto 23 d_M_isCell_19 rfl B))) ?_
      exact rt_bool d_M_isCell_23 rfl (by decide)
set_option maxHeartbeats 4000000 in
set_option maxRecDepth 200000 in
theorem z_M_isCell (v0 : Int32) (v1 : Int32) : (f_M_isCell v0 v1) &&& 1 = f_M_isCell v0 v1 := by
  unfold f_M_isCell
  repeat' split
  all_goals first | decide | exact z_M_in .. | exact z_M_in .. | skip
/-! WideTurnModel.isFree([IIII)Z -/
def f_M_isFree (v0 : Option Nat) (v1 : Int32) (v2 : Int32) (v3 : Int32) (h : MH) : Option (Int32) :=
  if (f_M_isCell v1 v2) = 0 then
    some (0 : Int32)
  else
    Option.bind (ald h v0 0 (13 : Int32)) fun x2 =>
    if ((x2 >>> ((((6 : Int32) * v2) + v1) &&& 31)) &&& (1 : Int32)) = 0 then
      Option.bind (ald h v0 0 (((18 : Int32) + ((6 : Int32) * v2)) + v1)) fun x5 =>
      if x5 < v3 then
        some (0 : Int32)
      else
        some (1 : Int32)
    else
      some (0 : Int32)
set_option maxHeartbeats 4000000 in
set_option maxRecDepth 200000 in
theorem t_M_isFree (v0 : Option Nat) (v1 : Int32) (v2 : Int32) (v3 : Int32) (h : MH) (r : (Int32)) (hyp : f_M_isFree v0 v1 v2 v3 h = some r) : Mt mi_M_isFree 3 [va_rf v0, .int v1, .int v2, .int v3] h (some (.int r)) h := by
  refine Mt.rt (lv := [(0, va_rf v0), (1, .int v1), (2, .int v2), (3, .int v3)]) (by decide +kernel) (by simp [lv_args, mj_rfc, mj_cti, mj_ctl]) (by simp [mj_rfc, mj_cti, mj_ctl]) ?_
  unfold f_M_isFree at hyp
  refine rt_st (pc1 := 5) (fun _ _ B => go_iload_n 1 d_M_isFree_0 rfl (go_iload_n 2 d_M_isFree_1 rfl (go_callS1 (st := []) [.int v1, .int v2] (t_M_isCell v1 v2 h) mm_M_isCell (by decide) d_M_isFree_2 w1194 w1195 rfl (Nat.le_of_ble_eq_true rfl) rfl B))) ?_
  by_cases c1 : (f_M_isCell v1 v2) = 0
  · replace hyp := (if_pos c1).symm.trans hyp
    refine rt_st (pc1 := 44) (fun _ _ B => go_if_eq_t 43 d_M_isFree_5 rfl c1 (go_iconst (v := (0 : Int32)) d_M_isFree_43 (by decide) B)) ?_
    exact rt_eqR Value.int hyp (rt_bool d_M_isFree_44 rfl (by decide))
  · replace hyp := (if_neg c1).symm.trans hyp
    obtain ⟨x2, e3, hyp⟩ := Option.bind_eq_some_iff.mp hyp
    refine rt_st (pc1 := 21) (fun _ _ B => go_if_eq_f d_M_isFree_5 rfl c1 (go_aload_n 0 d_M_isFree_8 rfl (go_bipush (v := (13 : Int32)) d_M_isFree_9 (by decide) (go_iald d_M_isFree_11 e3 (go_bipush (v := (6 : Int32)) d_M_isFree_12 (by decide) (go_iload_n 2 d_M_isFree_14 rfl (go_imul d_M_isFree_15 (go_iload_n 1 d_M_isFree_16 rfl (go_iadd d_M_isFree_17 (go_ishr d_M_isFree_18 (go_iconst (v := (1 : Int32)) d_M_isFree_19 (by decide) (go_iand d_M_isFree_20 B)))))))))))) ?_
    by_cases c4 : ((x2 >>> ((((6 : Int32) * v2) + v1) &&& 31)) &&& (1 : Int32)) = 0
    · replace hyp := (if_pos c4).symm.trans hyp
      obtain ⟨x5, e6, hyp⟩ := Option.bind_eq_some_iff.mp hyp
      refine rt_st (pc1 := 36) (fun _ _ B => go_if_ne_f d_M_isFree_21 rfl c4 (go_aload_n 0 d_M_isFree_24 rfl (go_bipush (v := (18 : Int32)) d_M_isFree_25 (by decide) (go_bipush (v := (6 : Int32)) d_M_isFree_27 (by decide) (go_iload_n 2 d_M_isFree_29 rfl (go_imul d_M_isFree_30 (go_iadd d_M_isFree_31 (go_iload_n 1 d_M_isFree_32 rfl (go_iadd d_M_isFree_33 (go_iald d_M_isFree_34 e6 (go_iload_n 3 d_M_isFree_35 rfl B))))))))))) ?_
      by_cases c7 : x5 < v3
      · replace hyp := (if_pos c7).symm.trans hyp
        refine rt_st (pc1 := 44) (fun _ _ B => go_icmp_lt_t 43 d_M_isFree_36 rfl c7 (go_iconst (v := (0 : Int32)) d_M_isFree_43 (by decide) B)) ?_
        exact rt_eqR Value.int hyp (rt_bool d_M_isFree_44 rfl (by decide))
      · replace hyp := (if_neg c7).symm.trans hyp
        refine rt_st (pc1 := 44) (fun _ _ B => go_icmp_lt_f d_M_isFree_36 rfl c7 (go_iconst (v := (1 : Int32)) d_M_isFree_39 (by decide) (go_goto 44 d_M_isFree_40 rfl B))) ?_
        exact rt_eqR Value.int hyp (rt_bool d_M_isFree_44 rfl (by decide))
    · replace hyp := (if_neg c4).symm.trans hyp
      refine rt_st (pc1 := 44) (fun _ _ B => go_if_ne_t 43 d_M_isFree_21 rfl c4 (go_iconst (v := (0 : Int32)) d_M_isFree_43 (by decide) B)) ?_
      exact rt_eqR Value.int hyp (rt_bool d_M_isFree_44 rfl (by decide))
/-! WideTurnModel.fits([IIIII)Z -/
def f_M_fits (v0 : Option Nat) (v1 : Int32) (v2 : Int32) (v3 : Int32) (v4 : Int32) (h : MH) : Option (Int32) :=
  Option.bind (f_M_isFree v0 v1 v2 v4 h) fun x1 =>
  if x1 = 0 then
    some (0 : Int32)
  else
    Option.bind (f_M_isFree v0 (v1 + (f_M_dx v3)) (v2 + (f_M_dy v3)) v4 h) fun x4 =>
    if x4 = 0 then
      some (0 : Int32)
    else
      Option.bind (f_M_isFree v0 (v1 - (f_M_dx v3)) (v2 - (f_M_dy v3)) v4 h) fun x7 =>
      if x7 = 0 then
        some (0 : Int32)
      else
        some (1 : Int32)
set_option maxHeartbeats 4000000 in
set_option maxRecDepth 200000 in
theorem t_M_fits (v0 : Option Nat) (v1 : Int32) (v2 : Int32) (v3 : Int32) (v4 : Int32) (h : MH) (r : (Int32)) (hyp : f_M_fits v0 v1 v2 v3 v4 h = some r) : Mt mi_M_fits 4 [va_rf v0, .int v1, .int v2, .int v3, .int v4] h (some (.int r)) h := by
  refine Mt.rt (lv := [(0, va_rf v0), (1, .int v1), (2, .int v2), (3, .int v3), (4, .int v4)]) (by decide +kernel) (by simp [lv_args, mj_rfc, mj_cti, mj_ctl]) (by simp [mj_rfc, mj_cti, mj_ctl]) ?_
  unfold f_M_fits at hyp
  obtain ⟨x1, e2, hyp⟩ := Option.bind_eq_some_iff.mp hyp
  refine rt_st (pc1 := 8) (fun _ _ B => go_aload_n 0 d_M_fits_0 rfl (go_iload_n 1 d_M_fits_1 rfl (go_iload_n 2 d_M_fits_2 rfl (go_iload 4 d_M_fits_3 rfl (go_callS1 (st := []) [va_rf v0, .int v1, .int v2, .int v4] (t_M_isFree v0 v1 v2 v4 h _ e2) mm_M_isFree (by decide) d_M_fits_5 w1191 w1192 rfl (Nat.le_of_ble_eq_true rfl) rfl B))))) ?_
  by_cases c3 : x1 = 0
  · replace hyp := (if_pos c3).symm.trans hyp
    refine rt_st (pc1 := 58) (fun _ _ B => go_if_eq_t 57 d_M_fits_8 rfl c3 (go_iconst (v := (0 : Int32)) d_M_fits_57 (by decide) B)) ?_
    exact rt_eqR Value.int hyp (rt_bool d_M_fits_58 rfl (by decide))
  · replace hyp := (if_neg c3).symm.trans hyp
    obtain ⟨x4, e5, hyp⟩ := Option.bind_eq_some_iff.mp hyp
    refine rt_st (pc1 := 29) (fun _ _ B => go_if_eq_f d_M_fits_8 rfl c3 (go_aload_n 0 d_M_fits_11 rfl (go_iload_n 1 d_M_fits_12 rfl (go_iload_n 3 d_M_fits_13 rfl (go_callS1 (st := [.int v1, va_rf v0]) [.int v3] (t_M_dx v3 h) mm_M_dx (by decide) d_M_fits_14 w1176 w1177 rfl (Nat.le_of_ble_eq_true rfl) rfl (go_iadd d_M_fits_17 (go_iload_n 2 d_M_fits_18 rfl (go_iload_n 3 d_M_fits_19 rfl (go_callS1 (st := [.int v2, .int (v1 + (f_M_dx v3)), va_rf v0]) [.int v3] (t_M_dy v3 h) mm_M_dy (by decide) d_M_fits_20 w1179 w1180 rfl (Nat.le_of_ble_eq_true rfl) rfl (go_iadd d_M_fits_23 (go_iload 4 d_M_fits_24 rfl (go_callS1 (st := []) [va_rf v0, .int (v1 + (f_M_dx v3)), .int (v2 + (f_M_dy v3)), .int v4] (t_M_isFree v0 (v1 + (f_M_dx v3)) (v2 + (f_M_dy v3)) v4 h _ e5) mm_M_isFree (by decide) d_M_fits_26 w1191 w1192 rfl (Nat.le_of_ble_eq_true rfl) rfl B)))))))))))) ?_
    by_cases c6 : x4 = 0
    · replace hyp := (if_pos c6).symm.trans hyp
      refine rt_st (pc1 := 58) (fun _ _ B => go_if_eq_t 57 d_M_fits_29 rfl c6 (go_iconst (v := (0 : Int32)) d_M_fits_57 (by decide) B)) ?_
      exact rt_eqR Value.int hyp (rt_bool d_M_fits_58 rfl (by decide))
    · replace hyp := (if_neg c6).symm.trans hyp
      obtain ⟨x7, e8, hyp⟩ := Option.bind_eq_some_iff.mp hyp
      refine rt_st (pc1 := 50) (fun _ _ B => go_if_eq_f d_M_fits_29 rfl c6 (go_aload_n 0 d_M_fits_32 rfl (go_iload_n 1 d_M_fits_33 rfl (go_iload_n 3 d_M_fits_34 rfl (go_callS1 (st := [.int v1, va_rf v0]) [.int v3] (t_M_dx v3 h) mm_M_dx (by decide) d_M_fits_35 w1176 w1177 rfl (Nat.le_of_ble_eq_true rfl) rfl (go_isub d_M_fits_38 (go_iload_n 2 d_M_fits_39 rfl (go_iload_n 3 d_M_fits_40 rfl (go_callS1 (st := [.int v2, .int (v1 - (f_M_dx v3)), va_rf v0]) [.int v3] (t_M_dy v3 h) mm_M_dy (by decide) d_M_fits_41 w1179 w1180 rfl (Nat.le_of_ble_eq_true rfl) rfl (go_isub d_M_fits_44 (go_iload 4 d_M_fits_45 rfl (go_callS1 (st := []) [va_rf v0, .int (v1 - (f_M_dx v3)), .int (v2 - (f_M_dy v3)), .int v4] (t_M_isFree v0 (v1 - (f_M_dx v3)) (v2 - (f_M_dy v3)) v4 h _ e8) mm_M_isFree (by decide) d_M_fits_47 w1191 w1192 rfl (Nat.le_of_ble_eq_true rfl) rfl B)))))))))))) ?_
      by_cases c9 : x7 = 0
      · replace hyp := (if_pos c9).symm.trans hyp
        refine rt_st (pc1 := 58) (fun _ _ B => go_if_eq_t 57 d_M_fits_50 rfl c9 (go_iconst (v := (0 : Int32)) d_M_fits_57 (by decide) B)) ?_
        exact rt_eqR Value.int hyp (rt_bool d_M_fits_58 rfl (by decide))
      · replace hyp := (if_neg c9).symm.trans hyp
        refine rt_st (pc1 := 58) (fun _ _ B => go_if_eq_f d_M_fits_50 rfl c9 (go_iconst (v := (1 : Int32)) d_M_fits_53 (by decide) (go_goto 58 d_M_fits_54 rfl B))) ?_
        exact rt_eqR Value.int hyp (rt_bool d_M_fits_58 rfl (by decide))
/-! WideTurnModel.draughtOf([II)I -/
def b_M_draughtOf_18 (h : MH) : (Int32) → (Int32) → (Int32) → (Option (Int32)) := fun v1 s0 s1 => 
  if 0 ≤ ((s0 + s1) - v1) then
    some ((s0 + s1) - v1)
  else
    some (0 : Int32)
def f_M_draughtOf (v0 : Option Nat) (v1 : Int32) (h : MH) : Option (Int32) :=
  Option.bind (ald h v0 0 (2 : Int32)) fun x1 =>
  Option.bind (ald h v0 0 (16 : Int32)) fun x3 =>
  if x3 = (1 : Int32) then
    Option.bind (ald h v0 0 (3 : Int32)) fun x6 =>
    b_M_draughtOf_18 h v1 x1 x6
  else
    b_M_draughtOf_18 h v1 x1 (0 : Int32)
set_option maxHeartbeats 4000000 in
set_option maxRecDepth 200000 in
theorem p_M_draughtOf_18 (h : MH) {h0 : MH} (v1 : Int32) (s0 : Int32) (s1 : Int32) (r : (Int32)) : b_M_draughtOf_18 h  v1 s0 s1 = some r → Rt mi_M_draughtOf 1 h0 18 [(1, .int v1)] [.int s1, .int s0] h (some (.int r)) h := by
  intro hyp
  unfold b_M_draughtOf_18 at hyp
  refine rt_st (pc1 := 23) (fun _ _ B => go_iadd d_M_draughtOf_18 (go_iload_n 0 d_M_draughtOf_19 rfl (go_isub d_M_draughtOf_20 (go_istore_n (lv1 := [(2, .int ((s0 + s1) - v1)), (1, .int v1)]) d_M_draughtOf_21 (by decide) rfl (go_iload_n 0 d_M_draughtOf_22 rfl B))))) ?_
  by_cases c1 : 0 ≤ ((s0 + s1) - v1)
  · replace hyp := (if_pos c1).symm.trans hyp
    refine rt_st (pc1 := 31) (fun _ _ B => go_if_ge_t 30 d_M_draughtOf_23 rfl c1 (go_iload_n 0 d_M_draughtOf_30 rfl B)) ?_
    exact rt_eqR Value.int hyp (rt_int d_M_draughtOf_31 rfl)
  · replace hyp := (if_neg c1).symm.trans hyp
    refine rt_st (pc1 := 31) (fun _ _ B => go_if_ge_f d_M_draughtOf_23 rfl c1 (go_iconst (v := (0 : Int32)) d_M_draughtOf_26 (by decide) (go_goto 31 d_M_draughtOf_27 rfl B))) ?_
    exact rt_eqR Value.int hyp (rt_int d_M_draughtOf_31 rfl)
set_option maxHeartbeats 4000000 in
set_option maxRecDepth 200000 in
theorem t_M_draughtOf (v0 : Option Nat) (v1 : Int32) (h : MH) (r : (Int32)) (hyp : f_M_draughtOf v0 v1 h = some r) : Mt mi_M_draughtOf 1 [va_rf v0, .int v1] h (some (.int r)) h := by
  refine Mt.rt (lv := [(0, va_rf v0), (1, .int v1)]) (by decide +kernel) (by simp [lv_args, mj_rfc, mj_cti, mj_ctl]) (by simp [mj_rfc, mj_cti, mj_ctl]) ?_
  unfold f_M_draughtOf at hyp
  obtain ⟨x1, e2, hyp⟩ := Option.bind_eq_some_iff.mp hyp
  obtain ⟨x3, e4, hyp⟩ := Option.bind_eq_some_iff.mp hyp
  refine rt_st (pc1 := 8) (fun _ _ B => go_aload_n 0 d_M_draughtOf_0 rfl (go_iconst (v := (2 : Int32)) d_M_draughtOf_1 (by decide) (go_iald d_M_draughtOf_2 e2 (go_aload_n 0 d_M_draughtOf_3 rfl (go_bipush (v := (16 : Int32)) d_M_draughtOf_4 (by decide) (go_iald d_M_draughtOf_6 e4 (go_iconst (v := (1 : Int32)) d_M_draughtOf_7 (by decide) B))))))) ?_
  by_cases c5 : x3 = (1 : Int32)
  · replace hyp := (if_pos c5).symm.trans hyp
    obtain ⟨x6, e7, hyp⟩ := Option.bind_eq_some_iff.mp hyp
    refine rt_st (pc1 := 18) (fun _ _ B => go_icmp_ne_f d_M_draughtOf_8 rfl c5 (go_aload_n 0 d_M_draughtOf_11 rfl (go_iconst (v := (3 : Int32)) d_M_draughtOf_12 (by decide) (go_iald d_M_draughtOf_13 e7 (go_goto 18 d_M_draughtOf_14 rfl B))))) ?_
    refine rt_sub [1] (lv1 := [(1, .int v1)]) rfl ?_
    exact p_M_draughtOf_18 h _ _ _ r hyp
  · replace hyp := (if_neg c5).symm.trans hyp
    refine rt_st (pc1 := 18) (fun _ _ B => go_icmp_ne_t 17 d_M_draughtOf_8 rfl c5 (go_iconst (v := (0 : Int32)) d_M_draughtOf_17 (by decide) B)) ?_
    refine rt_sub [1] (lv1 := [(1, .int v1)]) rfl ?_
    exact p_M_draughtOf_18 h _ _ _ r hyp
/-! WideTurnModel.makes(II)Z -/
def b_M_makes_40 : (Int32) → (Int32) → (Int32) := fun v0 v1 => 
  if v0 ≤ (3 : Int32) then
    (0 : Int32)
  else
    if v1 ≤ (5 : Int32) then
      (0 : Int32)
    else
      (1 : Int32)
def b_M_makes_20 : (Int32) → (Int32) → (Int32) := fun v0 v1 => 
  if v0 = (3 : Int32) then
    if v1 < (2 : Int32) then
      (1 : Int32)
    else
      if v1 = (4 : Int32) then
        (1 : Int32)
      else
        if v1 = (5 : Int32) then
          (1 : Int32)
        else
          b_M_makes_40 v0 v1
  else
    b_M_makes_40 v0 v1
def b_M_makes_10 : (Int32) → (Int32) → (Int32) := fun v0 v1 => 
  if v0 = (2 : Int32) then
    if v1 < (4 : Int32) then
      (1 : Int32)
    else
      b_M_makes_20 v0 v1
  else
    b_M_makes_20 v0 v1
def f_M_makes (v0 : Int32) (v1 : Int32) : Int32 :=
  if v0 = (1 : Int32) then
    if v1 < (2 : Int32) then
      (1 : Int32)
    else
      b_M_makes_10 v0 v1
  else
    b_M_makes_10 v0 v1
set_option maxHeartbeats 4000000 in
set_option maxRecDepth 200000 in
theorem p_M_makes_40 (h : MH) {h0 : MH} (v0 : Int32) (v1 : Int32) : Rt mi_M_makes 1 h0 40 [(0, .int v0), (1, .int v1)] [] h (some (.int (b_M_makes_40  v0 v1))) h := by
  unfold b_M_makes_40
  refine rt_st (pc1 := 42) (fun _ _ B => go_iload_n 0 d_M_makes_40 rfl (go_iconst (v := (3 : Int32)) d_M_makes_41 (by decide) B)) ?_
  by_cases c1 : v0 ≤ (3 : Int32)
  · rw [if_pos c1]
    refine rt_st (pc1 := 55) (fun _ _ B => go_icmp_le_t 54 d_M_makes_42 rfl c1 (go_iconst (v := (0 : Int32)) d_M_makes_54 (by decide) B)) ?_
    exact rt_bool d_M_makes_55 rfl (by decide)
  · rw [if_neg c1]
    refine rt_st (pc1 := 47) (fun _ _ B => go_icmp_le_f d_M_makes_42 rfl c1 (go_iload_n 1 d_M_makes_45 rfl (go_iconst (v := (5 : Int32)) d_M_makes_46 (by decide) B))) ?_
    by_cases c2 : v1 ≤ (5 : Int32)
    · rw [if_pos c2]
      refine rt_st (pc1 := 55) (fun _ _ B => go_icmp_le_t 54 d_M_makes_47 rfl c2 (go_iconst (v := (0 : Int32)) d_M_makes_54 (by decide) B)) ?_
      exact rt_bool d_M_makes_55 rfl (by decide)
    · rw [if_neg c2]
      refine rt_st (pc1 := 55) (fun _ _ B => go_icmp_le_f d_M_makes_47 rfl c2 (go_iconst (v := (1 : Int32)) d_M_makes_50 (by decide) (go_goto 55 d_M_makes_51 rfl B))) ?_
      exact rt_bool d_M_makes_55 rfl (by decide)
set_option maxHeartbeats 4000000 in
set_option maxRecDepth 200000 in
theorem p_M_makes_20 (h : MH) {h0 : MH} (v0 : Int32) (v1 : Int32) : Rt mi_M_makes 1 h0 20 [(0, .int v0), (1, .int v1)] [] h (some (.int (b_M_makes_20  v0 v1))) h := by
  unfold b_M_makes_20
  refine rt_st (pc1 := 22) (fun _ _ B => go_iload_n 0 d_M_makes_20 rfl (go_iconst (v := (3 : Int32)) d_M_makes_21 (by decide) B)) ?_
  by_cases c1 : v0 = (3 : Int32)
  · rw [if_pos c1]
    refine rt_st (pc1 := 27) (fun _ _ B => go_icmp_ne_f d_M_makes_22 rfl c1 (go_iload_n 1 d_M_makes_25 rfl (go_iconst (v := (2 : Int32)) d_M_makes_26 (by decide) B))) ?_
    by_cases c2 : v1 < (2 : Int32)
    · rw [if_pos c2]
      refine rt_st (pc1 := 55) (fun _ _ B => go_icmp_lt_t 50 d_M_makes_27 rfl c2 (go_iconst (v := (1 : Int32)) d_M_makes_50 (by decide) (go_goto 55 d_M_makes_51 rfl B))) ?_
      exact rt_bool d_M_makes_55 rfl (by decide)
    · rw [if_neg c2]
      refine rt_st (pc1 := 32) (fun _ _ B => go_icmp_lt_f d_M_makes_27 rfl c2 (go_iload_n 1 d_M_makes_30 rfl (go_iconst (v := (4 : Int32)) d_M_makes_31 (by decide) B))) ?_
      by_cases c3 : v1 = (4 : Int32)
      · rw [if_pos c3]
        refine rt_st (pc1 := 55) (fun _ _ B => go_icmp_eq_t 50 d_M_makes_32 rfl c3 (go_iconst (v := (1 : Int32)) d_M_makes_50 (by decide) (go_goto 55 d_M_makes_51 rfl B))) ?_
        exact rt_bool d_M_makes_55 rfl (by decide)
      · rw [if_neg c3]
        refine rt_st (pc1 := 37) (fun _ _ B => go_icmp_eq_f d_M_makes_32 rfl c3 (go_iload_n 1 d_M_makes_35 rfl (go_iconst (v := (5 : Int32)) d_M_makes_36 (by decide) B))) ?_
        by_cases c4 : v1 = (5 : Int32)
        · rw [if_pos c4]
          refine rt_st (pc1 := 55) (fun _ _ B => go_icmp_eq_t 50 d_M_makes_37 rfl c4 (go_iconst (v := (1 : Int32)) d_M_makes_50 (by decide) (go_goto 55 d_M_makes_51 rfl B))) ?_
          exact rt_bool d_M_makes_55 rfl (by decide)
        · rw [if_neg c4]
          refine rt_st (pc1 := 40) (fun _ _ B => go_icmp_eq_f d_M_makes_37 rfl c4 B) ?_
          exact p_M_makes_40 h v0 v1
  · rw [if_neg c1]
    refine rt_st (pc1 := 40) (fun _ _ B => go_icmp_ne_t 40 d_M_makes_22 rfl c1 B) ?_
    exact p_M_makes_40 h v0 v1
set_option maxHeartbeats 4000000 in
set_option maxRecDepth 200000 in
theorem p_M_makes_10 (h : MH) {h0 : MH} (v0 : Int32) (v1 : Int32) : Rt mi_M_makes 1 h0 10 [(0, .int v0), (1, .int v1)] [] h (some (.int (b_M_makes_10  v0 v1))) h := by
  unfold b_M_makes_10
  refine rt_st (pc1 := 12) (fun _ _ B => go_iload_n 0 d_M_makes_10 rfl (go_iconst (v := (2 : Int32)) d_M_makes_11 (by decide) B)) ?_
  by_cases c1 : v0 = (2 : Int32)
  · rw [if_pos c1]
    refine rt_st (pc1 := 17) (fun _ _ B => go_icmp_ne_f d_M_makes_12 rfl c1 (go_iload_n 1 d_M_makes_15 rfl (go_iconst (v := (4 : Int32)) d_M_makes_16 (by decide) B))) ?_
    by_cases c2 : v1 < (4 : Int32)
    · rw [if_pos c2]
      refine rt_st (pc1 := 55) (fun _ _ B => go_icmp_lt_t 50 d_M_makes_17 rfl c2 (go_iconst (v := (1 : Int32)) d_M_makes_50 (by decide) (go_goto 55 d_M_makes_51 rfl B))) ?_
      exact rt_bool d_M_makes_55 rfl (by decide)
    · rw [if_neg c2]
      refine rt_st (pc1 := 20) (fun _ _ B => go_icmp_lt_f d_M_makes_17 rfl c2 B) ?_
      exact p_M_makes_20 h v0 v1
  · rw [if_neg c1]
    refine rt_st (pc1 := 20) (fun _ _ B => go_icmp_ne_t 20 d_M_makes_12 rfl c1 B) ?_
    exact p_M_makes_20 h v0 v1
set_option maxHeartbeats 4000000 in
set_option maxRecDepth 200000 in
theorem t_M_makes (v0 : Int32) (v1 : Int32) (h : MH) : Mt mi_M_makes 1 [.int v0, .int v1] h (some (.int (f_M_makes v0 v1))) h := by
  refine Mt.rt (lv := [(0, .int v0), (1, .int v1)]) (by decide +kernel) (by simp [lv_args, mj_rfc, mj_cti, mj_ctl]) (by simp [mj_rfc, mj_cti, mj_ctl]) ?_
  unfold f_M_makes
  refine rt_st (pc1 := 2) (fun _ _ B => go_iload_n 0 d_M_makes_0 rfl (go_iconst (v := (1 : Int32)) d_M_makes_1 (by decide) B)) ?_
  by_cases c1 : v0 = (1 : Int32)
  · rw [if_pos c1]
    refine rt_st (pc1 := 7) (fun _ _ B => go_icmp_ne_f d_M_makes_2 rfl c1 (go_iload_n 1 d_M_makes_5 rfl (go_iconst (v := (2 : Int32)) d_M_makes_6 (by decide) B))) ?_
    by_cases c2 : v1 < (2 : Int32)
    · rw [if_pos c2]
      refine rt_st (pc1 := 55) (fun _ _ B => go_icmp_lt_t 50 d_M_makes_7 rfl c2 (go_iconst (v := (1 : Int32)) d_M_makes_50 (by decide) (go_goto 55 d_M_makes_51 rfl B))) ?_
      exact rt_bool d_M_makes_55 rfl (by decide)
    · rw [if_neg c2]
      refine rt_st (pc1 := 10) (fun _ _ B => go_icmp_lt_f d_M_makes_7 rfl c2 B) ?_
      exact p_M_makes_10 h v0 v1
  · rw [if_neg c1]
    refine rt_st (pc1 := 10) (fun _ _ B => go_icmp_ne_t 10 d_M_makes_2 rfl c1 B) ?_
    exact p_M_makes_10 h v0 v1
set_option maxHeartbeats 4000000 in
set_option maxRecDepth 200000 in
theorem z_M_makes (v0 : Int32) (v1 : Int32) : (f_M_makes v0 v1) &&& 1 = f_M_makes v0 v1 := by
  unfold f_M_makes b_M_makes_10 b_M_makes_20 b_M_makes_40
  repeat' split
  all_goals first | decide | skip
