/-! WideTurnModel.minutesOf([III)I -/
def b_M_minutesOf_21 (h : MH) : (Int32) → (Int32) → (Int32) → (Option (Int32)) := fun v2 v3 s0 => 
  if v2 = (4 : Int32) then
    some s0
  else
    if v2 = (5 : Int32) then
      some s0
    else
      some v3
def f_M_minutesOf (v0 : Option Nat) (v1 : Int32) (v2 : Int32) (h : MH) : Option (Int32) :=
  Option.bind (ald h v0 0 ((9 : Int32) + v1)) fun x1 =>
  if (1 : Int32) ≤ (x1 / (2 : Int32)) then
    b_M_minutesOf_21 h v2 x1 (x1 / (2 : Int32))
  else
    b_M_minutesOf_21 h v2 x1 (1 : Int32)
set_option maxHeartbeats 4000000 in
set_option maxRecDepth 200000 in
theorem p_M_minutesOf_21 (h : MH) {h0 : MH} (v2 : Int32) (v3 : Int32) (s0 : Int32) (r : (Int32)) : b_M_minutesOf_21 h  v2 v3 s0 = some r → Rt mi_M_minutesOf 1 h0 21 [(2, .int v2), (3, .int v3)] [.int s0] h (some (.int r)) h := by
  intro hyp
  unfold b_M_minutesOf_21 at hyp
  refine rt_st (pc1 := 25) (fun _ _ B => go_istore (lv1 := [(4, .int s0), (2, .int v2), (3, .int v3)]) d_M_minutesOf_21 (by decide) rfl (go_iload_n 1 d_M_minutesOf_23 rfl (go_iconst (v := (4 : Int32)) d_M_minutesOf_24 (by decide) B))) ?_
  by_cases c1 : v2 = (4 : Int32)
  · replace hyp := (if_pos c1).symm.trans hyp
    refine rt_st (pc1 := 39) (fun _ _ B => go_icmp_eq_t 33 d_M_minutesOf_25 rfl c1 (go_iload 0 d_M_minutesOf_33 rfl (go_goto 39 d_M_minutesOf_35 rfl B))) ?_
    exact rt_eqR Value.int hyp (rt_int d_M_minutesOf_39 rfl)
  · replace hyp := (if_neg c1).symm.trans hyp
    refine rt_st (pc1 := 30) (fun _ _ B => go_icmp_eq_f d_M_minutesOf_25 rfl c1 (go_iload_n 1 d_M_minutesOf_28 rfl (go_iconst (v := (5 : Int32)) d_M_minutesOf_29 (by decide) B))) ?_
    by_cases c2 : v2 = (5 : Int32)
    · replace hyp := (if_pos c2).symm.trans hyp
      refine rt_st (pc1 := 39) (fun _ _ B => go_icmp_ne_f d_M_minutesOf_30 rfl c2 (go_iload 0 d_M_minutesOf_33 rfl (go_goto 39 d_M_minutesOf_35 rfl B))) ?_
      exact rt_eqR Value.int hyp (rt_int d_M_minutesOf_39 rfl)
    · replace hyp := (if_neg c2).symm.trans hyp
      refine rt_st (pc1 := 39) (fun _ _ B => go_icmp_ne_t 38 d_M_minutesOf_30 rfl c2 (go_iload_n 2 d_M_minutesOf_38 rfl B)) ?_
      exact rt_eqR Value.int hyp (rt_int d_M_minutesOf_39 rfl)
set_option maxHeartbeats 4000000 in
set_option maxRecDepth 200000 in
theorem t_M_minutesOf (v0 : Option Nat) (v1 : Int32) (v2 : Int32) (h : MH) (r : (Int32)) (hyp : f_M_minutesOf v0 v1 v2 h = some r) : Mt mi_M_minutesOf 1 [va_rf v0, .int v1, .int v2] h (some (.int r)) h := by
  refine Mt.rt (lv := [(0, va_rf v0), (1, .int v1), (2, .int v2)]) (by decide +kernel) (by simp [lv_args, mj_rfc, mj_cti, mj_ctl]) (by simp [mj_rfc, mj_cti, mj_ctl]) ?_
  unfold f_M_minutesOf at hyp
  obtain ⟨x1, e2, hyp⟩ := Option.bind_eq_some_iff.mp hyp
  refine rt_st (pc1 := 11) (fun _ _ B => go_aload_n 0 d_M_minutesOf_0 rfl (go_bipush (v := (9 : Int32)) d_M_minutesOf_1 (by decide) (go_iload_n 1 d_M_minutesOf_3 rfl (go_iadd d_M_minutesOf_4 (go_iald d_M_minutesOf_5 e2 (go_istore_n (lv1 := [(3, .int x1), (0, va_rf v0), (1, .int v1), (2, .int v2)]) d_M_minutesOf_6 (by decide) rfl (go_iload_n 0 d_M_minutesOf_7 rfl (go_iconst (v := (2 : Int32)) d_M_minutesOf_8 (by decide) (go_idiv d_M_minutesOf_9 (by decide) (go_iconst (v := (1 : Int32)) d_M_minutesOf_10 (by decide) B)))))))))) ?_
  by_cases c3 : (1 : Int32) ≤ (x1 / (2 : Int32))
  · replace hyp := (if_pos c3).symm.trans hyp
    refine rt_st (pc1 := 21) (fun _ _ B => go_icmp_ge_t 18 d_M_minutesOf_11 rfl c3 (go_iload_n 0 d_M_minutesOf_18 rfl (go_iconst (v := (2 : Int32)) d_M_minutesOf_19 (by decide) (go_idiv d_M_minutesOf_20 (by decide) B)))) ?_
    refine rt_sub [3, 0] (lv1 := [(2, .int v2), (3, .int x1)]) rfl ?_
    exact p_M_minutesOf_21 h _ _ _ r hyp
  · replace hyp := (if_neg c3).symm.trans hyp
    refine rt_st (pc1 := 21) (fun _ _ B => go_icmp_ge_f d_M_minutesOf_11 rfl c3 (go_iconst (v := (1 : Int32)) d_M_minutesOf_14 (by decide) (go_goto 21 d_M_minutesOf_15 rfl B))) ?_
    refine rt_sub [3, 0] (lv1 := [(2, .int v2), (3, .int x1)]) rfl ?_
    exact p_M_minutesOf_21 h _ _ _ r hyp
/-! WideTurnModel.goes([IIII)Z -/
def b_M_goes_344 : (Option Nat) → (Int32) → (Int32) → (Int32) → (MH) → (Option (Int32 × MH)) := fun v0 v4 v5 v7 h => 
  Option.bind (ast h v0 0 (14 : Int32) (((6 : Int32) * v5) + v4)) fun h1 =>
  Option.bind (ast h1 v0 0 (15 : Int32) v7) fun h3 =>
  some ((1 : Int32), h3)
def b_M_goes_229 : (Option Nat) → (Int32) → (Int32) → (Int32) → (Int32) → (Int32) → (Int32) → (Int32) → (MH) → (Option (Int32 × MH)) := fun v0 v1 v2 v4 v5 v7 v8 s0 h => 
  Option.bind (ald h v0 0 ((5 : Int32) + v1)) fun x1 =>
  if (f_M_makes x1 v2) = 0 then
    some ((0 : Int32), h)
  else
    Option.bind (f_M_fits v0 v4 v5 v7 s0 h) fun x4 =>
    if x4 = 0 then
      some ((0 : Int32), h)
    else
      Option.bind (ald h v0 0 (17 : Int32)) fun x7 =>
      Option.bind (ast h v0 0 (17 : Int32) (x7 + (1 : Int32))) fun h9 =>
      Option.bind (ald h9 v0 0 (1 : Int32)) fun x11 =>
      Option.bind (ald h9 v0 0 (17 : Int32)) fun x13 =>
      if (mj_irem x13 (3 : Int32)) = 0 then
        Option.bind (ald h9 v0 0 (1 : Int32)) fun x16 =>
        if x16 ≤ 0 then
          b_M_goes_344 v0 v4 v5 v7 h9
        else
          Option.bind (ald h9 v0 0 (16 : Int32)) fun x19 =>
          if x19 = 0 then
            Option.bind (f_M_fits v0 (v4 + (f_M_dx (x11 - (1 : Int32)))) (v5 + (f_M_dy (x11 - (1 : Int32)))) v7 v8 h9) fun x22 =>
            if x22 = 0 then
              b_M_goes_344 v0 v4 v5 v7 h9
            else
              b_M_goes_344 v0 (v4 + (f_M_dx (x11 - (1 : Int32)))) (v5 + (f_M_dy (x11 - (1 : Int32)))) v7 h9
          else
            b_M_goes_344 v0 v4 v5 v7 h9
      else
        b_M_goes_344 v0 v4 v5 v7 h9
def b_M_goes_227 : (Option Nat) → (Int32) → (Int32) → (Int32) → (Int32) → (Int32) → (Int32) → (MH) → (Option (Int32 × MH)) := fun v0 v1 v2 v4 v5 v7 v8 h => 
  b_M_goes_229 v0 v1 v2 v4 v5 v7 v8 v8 h
def b_M_goes_199 : (Option Nat) → (Int32) → (Int32) → (Int32) → (Int32) → (Int32) → (Int32) → (MH) → (Option (Int32 × MH)) := fun v0 v1 v2 v3 v4 v5 v7 h => 
  Option.bind (f_M_draughtOf v0 v3 h) fun x1 =>
  Option.bind (ald h v0 0 ((5 : Int32) + v1)) fun x3 =>
  if x3 = (5 : Int32) then
    if x1 ≤ 0 then
      b_M_goes_227 v0 v1 v2 v4 v5 v7 x1 h
    else
      b_M_goes_229 v0 v1 v2 v4 v5 v7 x1 (x1 - (1 : Int32)) h
  else
    b_M_goes_227 v0 v1 v2 v4 v5 v7 x1 h
def b_M_goes_196 : (Option Nat) → (Int32) → (Int32) → (Int32) → (Int32) → (Int32) → (Int32) → (Int32) → (MH) → (Option (Int32 × MH)) := fun v0 v1 v2 v3 v4 v7 s0 s1 h => 
  b_M_goes_199 v0 v1 v2 v3 v4 (s0 + s1) v7 h
def b_M_goes_171 : (Option Nat) → (Int32) → (Int32) → (Int32) → (Int32) → (Int32) → (Int32) → (Int32) → (Int32) → (MH) → (Option (Int32 × MH)) := fun v0 v1 v2 v3 v5 v6 v7 s0 s1 h => 
  if v2 = (6 : Int32) then
    b_M_goes_196 v0 v1 v2 v3 (s0 + s1) v7 v5 (f_M_dy v6) h
  else
    b_M_goes_196 v0 v1 v2 v3 (s0 + s1) v7 v5 (-(f_M_dy v6)) h
def b_M_goes_109 : (Option Nat) → (Int32) → (Int32) → (Int32) → (Int32) → (Int32) → (Int32) → (Int32) → (MH) → (Option (Int32 × MH)) := fun v0 v1 v2 v3 v4 v5 v6 v7 h => 
  b_M_goes_199 v0 v1 v2 v3 (v4 + ((f_M_dx v6) - (f_M_dx v7))) (v5 + ((f_M_dy v6) - (f_M_dy v7))) v7 h
def b_M_goes_64 : (Option Nat) → (Int32) → (Int32) → (Int32) → (Int32) → (Int32) → (Int32) → (Int32) → (MH) → (Option (Int32 × MH)) := fun v0 v1 v2 v3 v4 v5 v6 v7 h => 
  b_M_goes_199 v0 v1 v2 v3 (v4 + ((f_M_dx v7) - (f_M_dx v6))) (v5 + ((f_M_dy v7) - (f_M_dy v6))) v7 h
def b_M_goes_52 : (Option Nat) → (Int32) → (Int32) → (Int32) → (Int32) → (Int32) → (Int32) → (Int32) → (MH) → (Option (Int32 × MH)) := fun v0 v1 v2 v3 v4 v5 v6 s0 h => 
  if v2 = (2 : Int32) then
    b_M_goes_64 v0 v1 v2 v3 v4 v5 v6 s0 h
  else
    if v2 = (3 : Int32) then
      b_M_goes_64 v0 v1 v2 v3 v4 v5 v6 s0 h
    else
      if v2 = (4 : Int32) then
        b_M_goes_109 v0 v1 v2 v3 v4 v5 v6 s0 h
      else
        if v2 = (5 : Int32) then
          b_M_goes_109 v0 v1 v2 v3 v4 v5 v6 s0 h
        else
          if v2 ≤ (5 : Int32) then
            b_M_goes_199 v0 v1 v2 v3 v4 v5 s0 h
          else
            if v2 = (6 : Int32) then
              b_M_goes_171 v0 v1 v2 v3 v5 v6 s0 v4 (f_M_dx v6) h
            else
              b_M_goes_171 v0 v1 v2 v3 v5 v6 s0 v4 (-(f_M_dx v6)) h
def b_M_goes_48 : (Option Nat) → (Int32) → (Int32) → (Int32) → (Int32) → (Int32) → (Int32) → (Int32) → (Int32) → (MH) → (Option (Int32 × MH)) := fun v0 v1 v2 v3 v4 v5 v6 s0 s1 h => 
  b_M_goes_52 v0 v1 v2 v3 v4 v5 v6 ((s0 + s1) &&& (7 : Int32)) h
def f_M_goes (v0 : Option Nat) (v1 : Int32) (v2 : Int32) (v3 : Int32) (h : MH) : Option (Int32 × MH) :=
  Option.bind (ald h v0 0 (14 : Int32)) fun x1 =>
  Option.bind (ald h v0 0 (14 : Int32)) fun x3 =>
  Option.bind (ald h v0 0 (15 : Int32)) fun x5 =>
  if v2 ≤ (5 : Int32) then
    if (mj_irem v2 (2 : Int32)) = 0 then
      b_M_goes_48 v0 v1 v2 v3 (mj_irem x1 (6 : Int32)) (x3 / (6 : Int32)) x5 x5 (1 : Int32) h
    else
      b_M_goes_48 v0 v1 v2 v3 (mj_irem x1 (6 : Int32)) (x3 / (6 : Int32)) x5 x5 (7 : Int32) h
  else
    b_M_goes_52 v0 v1 v2 v3 (mj_irem x1 (6 : Int32)) (x3 / (6 : Int32)) x5 x5 h
set_option maxHeartbeats 4000000 in
set_option maxRecDepth 200000 in
theorem p_M_goes_344 {h0 : MH} (v0 : Option Nat) (v4 : Int32) (v5 : Int32) (v7 : Int32) (h : MH) (r : (Int32 × MH)) : b_M_goes_344  v0 v4 v5 v7 h = some r → Rt mi_M_goes 5 h0 344 [(0, va_rf v0), (4, .int v4), (5, .int v5), (7, .int v7)] [] h (some (.int r.1)) r.2 := by
  intro hyp
  unfold b_M_goes_344 at hyp
  obtain ⟨h1, e2, hyp⟩ := Option.bind_eq_some_iff.mp hyp
  obtain ⟨h3, e4, hyp⟩ := Option.bind_eq_some_iff.mp hyp
  refine rt_st (pc1 := 363) (fun _ _ B => go_aload_n 0 d_M_goes_344 rfl (go_bipush (v := (14 : Int32)) d_M_goes_345 (by decide) (go_bipush (v := (6 : Int32)) d_M_goes_347 (by decide) (go_iload 2 d_M_goes_349 rfl (go_imul d_M_goes_351 (go_iload 1 d_M_goes_352 rfl (go_iadd d_M_goes_354 (go_iast d_M_goes_355 e2 (go_aload_n 0 d_M_goes_356 rfl (go_bipush (v := (15 : Int32)) d_M_goes_357 (by decide) (go_iload 3 d_M_goes_359 rfl (go_iast d_M_goes_361 e4 (go_iconst (v := (1 : Int32)) d_M_goes_362 (by decide) B))))))))))))) ?_
  exact rt_eqW Value.int hyp (rt_bool d_M_goes_363 rfl (by decide))
set_option maxHeartbeats 4000000 in
set_option maxRecDepth 200000 in
theorem p_M_goes_229 {h0 : MH} (v0 : Option Nat) (v1 : Int32) (v2 : Int32) (v4 : Int32) (v5 : Int32) (v7 : Int32) (v8 : Int32) (s0 : Int32) (h : MH) (r : (Int32 × MH)) : b_M_goes_229  v0 v1 v2 v4 v5 v7 v8 s0 h = some r → Rt mi_M_goes 5 h0 229 [(0, va_rf v0), (1, .int v1), (2, .int v2), (4, .int v4), (5, .int v5), (7, .int v7), (8, .int v8)] [.int s0] h (some (.int r.1)) r.2 := by
  intro hyp
  unfold b_M_goes_229 at hyp
  obtain ⟨x1, e2, hyp⟩ := Option.bind_eq_some_iff.mp hyp
  refine rt_st (pc1 := 240) (fun _ _ B => go_istore (lv1 := [(9, .int s0), (0, va_rf v0), (1, .int v1), (2, .int v2), (4, .int v4), (5, .int v5), (7, .int v7), (8, .int v8)]) d_M_goes_229 (by decide) rfl (go_aload_n 1 d_M_goes_231 rfl (go_iconst (v := (5 : Int32)) d_M_goes_232 (by decide) (go_iload_n 2 d_M_goes_233 rfl (go_iadd d_M_goes_234 (go_iald d_M_goes_235 e2 (go_iload_n 3 d_M_goes_236 rfl (go_callS1 (st := []) [.int x1, .int v2] (t_M_makes x1 v2 h) mm_M_makes (by decide) d_M_goes_237 w1185 w1186 rfl (Nat.le_of_ble_eq_true rfl) rfl B)))))))) ?_
  by_cases c3 : (f_M_makes x1 v2) = 0
  · replace hyp := (if_pos c3).symm.trans hyp
    refine rt_st (pc1 := 259) (fun _ _ B => go_if_eq_t 258 d_M_goes_240 rfl c3 (go_iconst (v := (0 : Int32)) d_M_goes_258 (by decide) B)) ?_
    exact rt_eqW Value.int hyp (rt_bool d_M_goes_259 rfl (by decide))
  · replace hyp := (if_neg c3).symm.trans hyp
    obtain ⟨x4, e5, hyp⟩ := Option.bind_eq_some_iff.mp hyp
    refine rt_st (pc1 := 255) (fun _ _ B => go_if_eq_f d_M_goes_240 rfl c3 (go_aload_n 1 d_M_goes_243 rfl (go_iload 4 d_M_goes_244 rfl (go_iload 5 d_M_goes_246 rfl (go_iload 6 d_M_goes_248 rfl (go_iload 0 d_M_goes_250 rfl (go_callS1 (st := []) [va_rf v0, .int v4, .int v5, .int v7, .int s0] (t_M_fits v0 v4 v5 v7 s0 h _ e5) mm_M_fits (by decide) d_M_goes_252 w1188 w1189 rfl (Nat.le_of_ble_eq_true rfl) rfl B))))))) ?_
    by_cases c6 : x4 = 0
    · replace hyp := (if_pos c6).symm.trans hyp
      refine rt_st (pc1 := 259) (fun _ _ B => go_if_ne_f d_M_goes_255 rfl c6 (go_iconst (v := (0 : Int32)) d_M_goes_258 (by decide) B)) ?_
      exact rt_eqW Value.int hyp (rt_bool d_M_goes_259 rfl (by decide))
    · replace hyp := (if_neg c6).symm.trans hyp
      obtain ⟨x7, e8, hyp⟩ := Option.bind_eq_some_iff.mp hyp
      obtain ⟨h9, e10, hyp⟩ := Option.bind_eq_some_iff.mp hyp
      obtain ⟨x11, e12, hyp⟩ := Option.bind_eq_some_iff.mp hyp
      obtain ⟨x13, e14, hyp⟩ := Option.bind_eq_some_iff.mp hyp
      refine rt_st (pc1 := 281) (fun _ _ B => go_if_ne_t 260 d_M_goes_255 rfl c6 (go_aload_n 1 d_M_goes_260 rfl (go_bipush (v := (17 : Int32)) d_M_goes_261 (by decide) (go_dup2 d_M_goes_263 rfl (mj_rfc _) (go_iald d_M_goes_264 e8 (go_iconst (v := (1 : Int32)) d_M_goes_265 (by decide) (go_iadd d_M_goes_266 (go_iast d_M_goes_267 e10 (go_aload_n 1 d_M_goes_268 rfl (go_iconst (v := (1 : Int32)) d_M_goes_269 (by decide) (go_iald d_M_goes_270 e12 (go_iconst (v := (1 : Int32)) d_M_goes_271 (by decide) (go_isub d_M_goes_272 (go_istore (lv1 := [(10, .int (x11 - (1 : Int32))), (9, .int s0), (0, va_rf v0), (1, .int v1), (2, .int v2), (4, .int v4), (5, .int v5), (7, .int v7), (8, .int v8)]) d_M_goes_273 (by decide) rfl (go_aload_n 2 d_M_goes_275 rfl (go_bipush (v := (17 : Int32)) d_M_goes_276 (by decide) (go_iald d_M_goes_278 e14 (go_iconst (v := (3 : Int32)) d_M_goes_279 (by decide) (go_irem d_M_goes_280 (by decide) B))))))))))))))))))) ?_
      by_cases c15 : (mj_irem x13 (3 : Int32)) = 0
      · replace hyp := (if_pos c15).symm.trans hyp
        obtain ⟨x16, e17, hyp⟩ := Option.bind_eq_some_iff.mp hyp
        refine rt_st (pc1 := 287) (fun _ _ B => go_if_ne_f d_M_goes_281 rfl c15 (go_aload_n 2 d_M_goes_284 rfl (go_iconst (v := (1 : Int32)) d_M_goes_285 (by decide) (go_iald d_M_goes_286 e17 B)))) ?_
        by_cases c18 : x16 ≤ 0
        · replace hyp := (if_pos c18).symm.trans hyp
          refine rt_st (pc1 := 344) (fun _ _ B => go_if_le_t 344 d_M_goes_287 rfl c18 B) ?_
          refine rt_sub [2, 5, 6, 7] (lv1 := [(0, va_rf v0), (4, .int v4), (5, .int v5), (7, .int v7)]) rfl ?_
          exact p_M_goes_344 _ _ _ _ _ r hyp
        · replace hyp := (if_neg c18).symm.trans hyp
          obtain ⟨x19, e20, hyp⟩ := Option.bind_eq_some_iff.mp hyp
          refine rt_st (pc1 := 294) (fun _ _ B => go_if_le_f d_M_goes_287 rfl c18 (go_aload_n 2 d_M_goes_290 rfl (go_bipush (v := (16 : Int32)) d_M_goes_291 (by decide) (go_iald d_M_goes_293 e20 B)))) ?_
          by_cases c21 : x19 = 0
          · replace hyp := (if_pos c21).symm.trans hyp
            obtain ⟨x22, e23, hyp⟩ := Option.bind_eq_some_iff.mp hyp
            refine rt_st (pc1 := 321) (fun _ _ B => go_if_ne_f d_M_goes_294 rfl c21 (go_aload_n 2 d_M_goes_297 rfl (go_iload 5 d_M_goes_298 rfl (go_iload 0 d_M_goes_300 rfl (go_callS1 (st := [.int v4, va_rf v0]) [.int (x11 - (1 : Int32))] (t_M_dx (x11 - (1 : Int32)) h9) mm_M_dx (by decide) d_M_goes_302 w1176 w1177 rfl (Nat.le_of_ble_eq_true rfl) rfl (go_iadd d_M_goes_305 (go_iload 6 d_M_goes_306 rfl (go_iload 0 d_M_goes_308 rfl (go_callS1 (st := [.int v5, .int (v4 + (f_M_dx (x11 - (1 : Int32)))), va_rf v0]) [.int (x11 - (1 : Int32))] (t_M_dy (x11 - (1 : Int32)) h9) mm_M_dy (by decide) d_M_goes_310 w1179 w1180 rfl (Nat.le_of_ble_eq_true rfl) rfl (go_iadd d_M_goes_313 (go_iload 7 d_M_goes_314 rfl (go_iload 8 d_M_goes_316 rfl (go_callS1 (st := []) [va_rf v0, .int (v4 + (f_M_dx (x11 - (1 : Int32)))), .int (v5 + (f_M_dy (x11 - (1 : Int32)))), .int v7, .int v8] (t_M_fits v0 (v4 + (f_M_dx (x11 - (1 : Int32)))) (v5 + (f_M_dy (x11 - (1 : Int32)))) v7 v8 h9 _ e23) mm_M_fits (by decide) d_M_goes_318 w1188 w1189 rfl (Nat.le_of_ble_eq_true rfl) rfl B))))))))))))) ?_
            by_cases c24 : x22 = 0
            · replace hyp := (if_pos c24).symm.trans hyp
              refine rt_st (pc1 := 344) (fun _ _ B => go_if_eq_t 344 d_M_goes_321 rfl c24 B) ?_
              refine rt_sub [2, 5, 6, 7] (lv1 := [(0, va_rf v0), (4, .int v4), (5, .int v5), (7, .int v7)]) rfl ?_
              exact p_M_goes_344 _ _ _ _ _ r hyp
            · replace hyp := (if_neg c24).symm.trans hyp
              refine rt_st (pc1 := 344) (fun _ _ B => go_if_eq_f d_M_goes_321 rfl c24 (go_iload 5 d_M_goes_324 rfl (go_iload 0 d_M_goes_326 rfl (go_callS1 (st := [.int v4]) [.int (x11 - (1 : Int32))] (t_M_dx (x11 - (1 : Int32)) h9) mm_M_dx (by decide) d_M_goes_328 w1176 w1177 rfl (Nat.le_of_ble_eq_true rfl) rfl (go_iadd d_M_goes_331 (go_istore (lv1 := [(4, .int (v4 + (f_M_dx (x11 - (1 : Int32))))), (10, .int (x11 - (1 : Int32))), (9, .int s0), (0, va_rf v0), (1, .int v1), (2, .int v2), (5, .int v5), (7, .int v7), (8, .int v8)]) d_M_goes_332 (by decide) rfl (go_iload 6 d_M_goes_334 rfl (go_iload 1 d_M_goes_336 rfl (go_callS1 (st := [.int v5]) [.int (x11 - (1 : Int32))] (t_M_dy (x11 - (1 : Int32)) h9) mm_M_dy (by decide) d_M_goes_338 w1179 w1180 rfl (Nat.le_of_ble_eq_true rfl) rfl (go_iadd d_M_goes_341 (go_istore (lv1 := [(5, .int (v5 + (f_M_dy (x11 - (1 : Int32))))), (4, .int (v4 + (f_M_dx (x11 - (1 : Int32))))), (10, .int (x11 - (1 : Int32))), (9, .int s0), (0, va_rf v0), (1, .int v1), (2, .int v2), (7, .int v7), (8, .int v8)]) d_M_goes_342 (by decide) rfl B))))))))))) ?_
              refine rt_sub [4, 1, 0, 7] (lv1 := [(0, va_rf v0), (4, .int (v4 + (f_M_dx (x11 - (1 : Int32))))), (5, .int (v5 + (f_M_dy (x11 - (1 : Int32))))), (7, .int v7)]) rfl ?_
              exact p_M_goes_344 _ _ _ _ _ r hyp
          · replace hyp := (if_neg c21).symm.trans hyp
            refine rt_st (pc1 := 344) (fun _ _ B => go_if_ne_t 344 d_M_goes_294 rfl c21 B) ?_
            refine rt_sub [2, 5, 6, 7] (lv1 := [(0, va_rf v0), (4, .int v4), (5, .int v5), (7, .int v7)]) rfl ?_
            exact p_M_goes_344 _ _ _ _ _ r hyp
      · replace hyp := (if_neg c15).symm.trans hyp
        refine rt_st (pc1 := 344) (fun _ _ B => go_if_ne_t 344 d_M_goes_281 rfl c15 B) ?_
        refine rt_sub [2, 5, 6, 7] (lv1 := [(0, va_rf v0), (4, .int v4), (5, .int v5), (7, .int v7)]) rfl ?_
        exact p_M_goes_344 _ _ _ _ _ r hyp
set_option maxHeartbeats 4000000 in
set_option maxRecDepth 200000 in
theorem p_M_goes_227 {h0 : MH} (v0 : Option Nat) (v1 : Int32) (v2 : Int32) (v4 : Int32) (v5 : Int32) (v7 : Int32) (v8 : Int32) (h : MH) (r : (Int32 × MH)) : b_M_goes_227  v0 v1 v2 v4 v5 v7 v8 h = some r → Rt mi_M_goes 5 h0 227 [(0, va_rf v0), (1, .int v1), (2, .int v2), (4, .int v4), (5, .int v5), (7, .int v7), (8, .int v8)] [] h (some (.int r.1)) r.2 := by
  intro hyp
  unfold b_M_goes_227 at hyp
  refine rt_st (pc1 := 229) (fun _ _ B => go_iload 6 d_M_goes_227 rfl B) ?_
  exact p_M_goes_229 _ _ _ _ _ _ _ _ _ r hyp
set_option maxHeartbeats 4000000 in
set_option maxRecDepth 200000 in
theorem p_M_goes_199 {h0 : MH} (v0 : Option Nat) (v1 : Int32) (v2 : Int32) (v3 : Int32) (v4 : Int32) (v5 : Int32) (v7 : Int32) (h : MH) (r : (Int32 × MH)) : b_M_goes_199  v0 v1 v2 v3 v4 v5 v7 h = some r → Rt mi_M_goes 5 h0 199 [(0, va_rf v0), (1, .int v1), (2, .int v2), (3, .int v3), (4, .int v4), (5, .int v5), (7, .int v7)] [] h (some (.int r.1)) r.2 := by
  intro hyp
  unfold b_M_goes_199 at hyp
  obtain ⟨x1, e2, hyp⟩ := Option.bind_eq_some_iff.mp hyp
  obtain ⟨x3, e4, hyp⟩ := Option.bind_eq_some_iff.mp hyp
  refine rt_st (pc1 := 212) (fun _ _ B => go_aload_n 0 d_M_goes_199 rfl (go_iload_n 3 d_M_goes_200 rfl (go_callS1 (st := []) [va_rf v0, .int v3] (t_M_draughtOf v0 v3 h _ e2) mm_M_draughtOf (by decide) d_M_goes_201 w1182 w1183 rfl (Nat.le_of_ble_eq_true rfl) rfl (go_istore (lv1 := [(8, .int x1), (0, va_rf v0), (1, .int v1), (2, .int v2), (3, .int v3), (4, .int v4), (5, .int v5), (7, .int v7)]) d_M_goes_204 (by decide) rfl (go_aload_n 1 d_M_goes_206 rfl (go_iconst (v := (5 : Int32)) d_M_goes_207 (by decide) (go_iload_n 2 d_M_goes_208 rfl (go_iadd d_M_goes_209 (go_iald d_M_goes_210 e4 (go_iconst (v := (5 : Int32)) d_M_goes_211 (by decide) B)))))))))) ?_
  by_cases c5 : x3 = (5 : Int32)
  · replace hyp := (if_pos c5).symm.trans hyp
    refine rt_st (pc1 := 217) (fun _ _ B => go_icmp_ne_f d_M_goes_212 rfl c5 (go_iload 0 d_M_goes_215 rfl B)) ?_
    by_cases c6 : x1 ≤ 0
    · replace hyp := (if_pos c6).symm.trans hyp
      refine rt_st (pc1 := 227) (fun _ _ B => go_if_le_t 227 d_M_goes_217 rfl c6 B) ?_
      refine rt_sub [1, 2, 3, 5, 6, 7, 0] (lv1 := [(0, va_rf v0), (1, .int v1), (2, .int v2), (4, .int v4), (5, .int v5), (7, .int v7), (8, .int x1)]) rfl ?_
      exact p_M_goes_227 _ _ _ _ _ _ _ _ r hyp
    · replace hyp := (if_neg c6).symm.trans hyp
      refine rt_st (pc1 := 229) (fun _ _ B => go_if_le_f d_M_goes_217 rfl c6 (go_iload 0 d_M_goes_220 rfl (go_iconst (v := (1 : Int32)) d_M_goes_222 (by decide) (go_isub d_M_goes_223 (go_goto 229 d_M_goes_224 rfl B))))) ?_
      refine rt_sub [1, 2, 3, 5, 6, 7, 0] (lv1 := [(0, va_rf v0), (1, .int v1), (2, .int v2), (4, .int v4), (5, .int v5), (7, .int v7), (8, .int x1)]) rfl ?_
      exact p_M_goes_229 _ _ _ _ _ _ _ _ _ r hyp
  · replace hyp := (if_neg c5).symm.trans hyp
    refine rt_st (pc1 := 227) (fun _ _ B => go_icmp_ne_t 227 d_M_goes_212 rfl c5 B) ?_
    refine rt_sub [1, 2, 3, 5, 6, 7, 0] (lv1 := [(0, va_rf v0), (1, .int v1), (2, .int v2), (4, .int v4), (5, .int v5), (7, .int v7), (8, .int x1)]) rfl ?_
    exact p_M_goes_227 _ _ _ _ _ _ _ _ r hyp
set_option maxHeartbeats 4000000 in
set_option maxRecDepth 200000 in
theorem p_M_goes_196 {h0 : MH} (v0 : Option Nat) (v1 : Int32) (v2 : Int32) (v3 : Int32) (v4 : Int32) (v7 : Int32) (s0 : Int32) (s1 : Int32) (h : MH) (r : (Int32 × MH)) : b_M_goes_196  v0 v1 v2 v3 v4 v7 s0 s1 h = some r → Rt mi_M_goes 5 h0 196 [(0, va_rf v0), (1, .int v1), (2, .int v2), (3, .int v3), (4, .int v4), (7, .int v7)] [.int s1, .int s0] h (some (.int r.1)) r.2 := by
  intro hyp
  unfold b_M_goes_196 at hyp
  refine rt_st (pc1 := 199) (fun _ _ B => go_iadd d_M_goes_196 (go_istore (lv1 := [(5, .int (s0 + s1)), (0, va_rf v0), (1, .int v1), (2, .int v2), (3, .int v3), (4, .int v4), (7, .int v7)]) d_M_goes_197 (by decide) rfl B)) ?_
  refine rt_sub [1, 2, 3, 4, 5, 0, 6] (lv1 := [(0, va_rf v0), (1, .int v1), (2, .int v2), (3, .int v3), (4, .int v4), (5, .int (s0 + s1)), (7, .int v7)]) rfl ?_
  exact p_M_goes_199 _ _ _ _ _ _ _ _ r hyp
set_option maxHeartbeats 4000000 in
set_option maxRecDepth 200000 in
theorem p_M_goes_171 {h0 : MH} (v0 : Option Nat) (v1 : Int32) (v2 : Int32) (v3 : Int32) (v5 : Int32) (v6 : Int32) (v7 : Int32) (s0 : Int32) (s1 : Int32) (h : MH) (r : (Int32 × MH)) : b_M_goes_171  v0 v1 v2 v3 v5 v6 v7 s0 s1 h = some r → Rt mi_M_goes 5 h0 171 [(0, va_rf v0), (1, .int v1), (2, .int v2), (3, .int v3), (5, .int v5), (6, .int v6), (7, .int v7)] [.int s1, .int s0] h (some (.int r.1)) r.2 := by
  intro hyp
  unfold b_M_goes_171 at hyp
  refine rt_st (pc1 := 179) (fun _ _ B => go_iadd d_M_goes_171 (go_istore (lv1 := [(4, .int (s0 + s1)), (0, va_rf v0), (1, .int v1), (2, .int v2), (3, .int v3), (5, .int v5), (6, .int v6), (7, .int v7)]) d_M_goes_172 (by decide) rfl (go_iload 5 d_M_goes_174 rfl (go_iload_n 3 d_M_goes_176 rfl (go_bipush (v := (6 : Int32)) d_M_goes_177 (by decide) B))))) ?_
  by_cases c1 : v2 = (6 : Int32)
  · replace hyp := (if_pos c1).symm.trans hyp
    refine rt_st (pc1 := 196) (fun _ _ B => go_icmp_ne_f d_M_goes_179 rfl c1 (go_iload 6 d_M_goes_182 rfl (go_callS1 (st := [.int v5]) [.int v6] (t_M_dy v6 h) mm_M_dy (by decide) d_M_goes_184 w1179 w1180 rfl (Nat.le_of_ble_eq_true rfl) rfl (go_goto 196 d_M_goes_187 rfl B)))) ?_
    refine rt_sub [1, 2, 3, 4, 0, 7] (lv1 := [(0, va_rf v0), (1, .int v1), (2, .int v2), (3, .int v3), (4, .int (s0 + s1)), (7, .int v7)]) rfl ?_
    exact p_M_goes_196 _ _ _ _ _ _ _ _ _ r hyp
  · replace hyp := (if_neg c1).symm.trans hyp
    refine rt_st (pc1 := 196) (fun _ _ B => go_icmp_ne_t 190 d_M_goes_179 rfl c1 (go_iload 6 d_M_goes_190 rfl (go_callS1 (st := [.int v5]) [.int v6] (t_M_dy v6 h) mm_M_dy (by decide) d_M_goes_192 w1179 w1180 rfl (Nat.le_of_ble_eq_true rfl) rfl (go_ineg d_M_goes_195 B)))) ?_
    refine rt_sub [1, 2, 3, 4, 0, 7] (lv1 := [(0, va_rf v0), (1, .int v1), (2, .int v2), (3, .int v3), (4, .int (s0 + s1)), (7, .int v7)]) rfl ?_
    exact p_M_goes_196 _ _ _ _ _ _ _ _ _ r hyp
set_option maxHeartbeats 4000000 in
set_option maxRecDepth 200000 in
theorem p_M_goes_109 {h0 : MH} (v0 : Option Nat) (v1 : Int32) (v2 : Int32) (v3 : Int32) (v4 : Int32) (v5 : Int32) (v6 : Int32) (v7 : Int32) (h : MH) (r : (Int32 × MH)) : b_M_goes_109  v0 v1 v2 v3 v4 v5 v6 v7 h = some r → Rt mi_M_goes 5 h0 109 [(0, va_rf v0), (1, .int v1), (2, .int v2), (3, .int v3), (4, .int v4), (5, .int v5), (6, .int v6), (7, .int v7)] [] h (some (.int r.1)) r.2 := by
  intro hyp
  unfold b_M_goes_109 at hyp
  refine rt_st (pc1 := 199) (fun _ _ B => go_iload 4 d_M_goes_109 rfl (go_iload 6 d_M_goes_111 rfl (go_callS1 (st := [.int v4]) [.int v6] (t_M_dx v6 h) mm_M_dx (by decide) d_M_goes_113 w1176 w1177 rfl (Nat.le_of_ble_eq_true rfl) rfl (go_iload 7 d_M_goes_116 rfl (go_callS1 (st := [.int (f_M_dx v6), .int v4]) [.int v7] (t_M_dx v7 h) mm_M_dx (by decide) d_M_goes_118 w1176 w1177 rfl (Nat.le_of_ble_eq_true rfl) rfl (go_isub d_M_goes_121 (go_iadd d_M_goes_122 (go_istore (lv1 := [(4, .int (v4 + ((f_M_dx v6) - (f_M_dx v7)))), (0, va_rf v0), (1, .int v1), (2, .int v2), (3, .int v3), (5, .int v5), (6, .int v6), (7, .int v7)]) d_M_goes_123 (by decide) rfl (go_iload 5 d_M_goes_125 rfl (go_iload 6 d_M_goes_127 rfl (go_callS1 (st := [.int v5]) [.int v6] (t_M_dy v6 h) mm_M_dy (by decide) d_M_goes_129 w1179 w1180 rfl (Nat.le_of_ble_eq_true rfl) rfl (go_iload 7 d_M_goes_132 rfl (go_callS1 (st := [.int (f_M_dy v6), .int v5]) [.int v7] (t_M_dy v7 h) mm_M_dy (by decide) d_M_goes_134 w1179 w1180 rfl (Nat.le_of_ble_eq_true rfl) rfl (go_isub d_M_goes_137 (go_iadd d_M_goes_138 (go_istore (lv1 := [(5, .int (v5 + ((f_M_dy v6) - (f_M_dy v7)))), (4, .int (v4 + ((f_M_dx v6) - (f_M_dx v7)))), (0, va_rf v0), (1, .int v1), (2, .int v2), (3, .int v3), (6, .int v6), (7, .int v7)]) d_M_goes_139 (by decide) rfl (go_goto 199 d_M_goes_141 rfl B))))))))))))))))) ?_
  refine rt_sub [2, 3, 4, 5, 1, 0, 7] (lv1 := [(0, va_rf v0), (1, .int v1), (2, .int v2), (3, .int v3), (4, .int (v4 + ((f_M_dx v6) - (f_M_dx v7)))), (5, .int (v5 + ((f_M_dy v6) - (f_M_dy v7)))), (7, .int v7)]) rfl ?_
  exact p_M_goes_199 _ _ _ _ _ _ _ _ r hyp
set_option maxHeartbeats 4000000 in
set_option maxRecDepth 200000 in
theorem p_M_goes_64 {h0 : MH} (v0 : Option Nat) (v1 : Int32) (v2 : Int32) (v3 : Int32) (v4 : Int32) (v5 : Int32) (v6 : Int32) (v7 : Int32) (h : MH) (r : (Int32 × MH)) : b_M_goes_64  v0 v1 v2 v3 v4 v5 v6 v7 h = some r → Rt mi_M_goes 5 h0 64 [(0, va_rf v0), (1, .int v1), (2, .int v2), (3, .int v3), (4, .int v4), (5, .int v5), (6, .int v6), (7, .int v7)] [] h (some (.int r.1)) r.2 := by
  intro hyp
  unfold b_M_goes_64 at hyp
  refine rt_st (pc1 := 199) (fun _ _ B => go_iload 4 d_M_goes_64 rfl (go_iload 7 d_M_goes_66 rfl (go_callS1 (st := [.int v4]) [.int v7] (t_M_dx v7 h) mm_M_dx (by decide) d_M_goes_68 w1176 w1177 rfl (Nat.le_of_ble_eq_true rfl) rfl (go_iload 6 d_M_goes_71 rfl (go_callS1 (st := [.int (f_M_dx v7), .int v4]) [.int v6] (t_M_dx v6 h) mm_M_dx (by decide) d_M_goes_73 w1176 w1177 rfl (Nat.le_of_ble_eq_true rfl) rfl (go_isub d_M_goes_76 (go_iadd d_M_goes_77 (go_istore (lv1 := [(4, .int (v4 + ((f_M_dx v7) - (f_M_dx v6)))), (0, va_rf v0), (1, .int v1), (2, .int v2), (3, .int v3), (5, .int v5), (6, .int v6), (7, .int v7)]) d_M_goes_78 (by decide) rfl (go_iload 5 d_M_goes_80 rfl (go_iload 7 d_M_goes_82 rfl (go_callS1 (st := [.int v5]) [.int v7] (t_M_dy v7 h) mm_M_dy (by decide) d_M_goes_84 w1179 w1180 rfl (Nat.le_of_ble_eq_true rfl) rfl (go_iload 6 d_M_goes_87 rfl (go_callS1 (st := [.int (f_M_dy v7), .int v5]) [.int v6] (t_M_dy v6 h) mm_M_dy (by decide) d_M_goes_89 w1179 w1180 rfl (Nat.le_of_ble_eq_true rfl) rfl (go_isub d_M_goes_92 (go_iadd d_M_goes_93 (go_istore (lv1 := [(5, .int (v5 + ((f_M_dy v7) - (f_M_dy v6)))), (4, .int (v4 + ((f_M_dx v7) - (f_M_dx v6)))), (0, va_rf v0), (1, .int v1), (2, .int v2), (3, .int v3), (6, .int v6), (7, .int v7)]) d_M_goes_94 (by decide) rfl (go_goto 199 d_M_goes_96 rfl B))))))))))))))))) ?_
  refine rt_sub [2, 3, 4, 5, 1, 0, 7] (lv1 := [(0, va_rf v0), (1, .int v1), (2, .int v2), (3, .int v3), (4, .int (v4 + ((f_M_dx v7) - (f_M_dx v6)))), (5, .int (v5 + ((f_M_dy v7) - (f_M_dy v6)))), (7, .int v7)]) rfl ?_
  exact p_M_goes_199 _ _ _ _ _ _ _ _ r hyp
set_option maxHeartbeats 4000000 in
set_option maxRecDepth 200000 in
theorem p_M_goes_52 {h0 : MH} (v0 : Option Nat) (v1 : Int32) (v2 : Int32) (v3 : Int32) (v4 : Int32) (v5 : Int32) (v6 : Int32) (s0 : Int32) (h : MH) (r : (Int32 × MH)) : b_M_goes_52  v0 v1 v2 v3 v4 v5 v6 s0 h = some r → Rt mi_M_goes 5 h0 52 [(0, va_rf v0), (1, .int v1), (2, .int v2), (3, .int v3), (4, .int v4), (5, .int v5), (6, .int v6)] [.int s0] h (some (.int r.1)) r.2 := by
  intro hyp
  unfold b_M_goes_52 at hyp
  refine rt_st (pc1 := 56) (fun _ _ B => go_istore (lv1 := [(7, .int s0), (0, va_rf v0), (1, .int v1), (2, .int v2), (3, .int v3), (4, .int v4), (5, .int v5), (6, .int v6)]) d_M_goes_52 (by decide) rfl (go_iload_n 3 d_M_goes_54 rfl (go_iconst (v := (2 : Int32)) d_M_goes_55 (by decide) B))) ?_
  by_cases c1 : v2 = (2 : Int32)
  · replace hyp := (if_pos c1).symm.trans hyp
    refine rt_st (pc1 := 64) (fun _ _ B => go_icmp_eq_t 64 d_M_goes_56 rfl c1 B) ?_
    refine rt_sub [1, 2, 3, 4, 5, 6, 7, 0] (lv1 := [(0, va_rf v0), (1, .int v1), (2, .int v2), (3, .int v3), (4, .int v4), (5, .int v5), (6, .int v6), (7, .int s0)]) rfl ?_
    exact p_M_goes_64 _ _ _ _ _ _ _ _ _ r hyp
  · replace hyp := (if_neg c1).symm.trans hyp
    refine rt_st (pc1 := 61) (fun _ _ B => go_icmp_eq_f d_M_goes_56 rfl c1 (go_iload_n 3 d_M_goes_59 rfl (go_iconst (v := (3 : Int32)) d_M_goes_60 (by decide) B))) ?_
    by_cases c2 : v2 = (3 : Int32)
    · replace hyp := (if_pos c2).symm.trans hyp
      refine rt_st (pc1 := 64) (fun _ _ B => go_icmp_ne_f d_M_goes_61 rfl c2 B) ?_
      refine rt_sub [1, 2, 3, 4, 5, 6, 7, 0] (lv1 := [(0, va_rf v0), (1, .int v1), (2, .int v2), (3, .int v3), (4, .int v4), (5, .int v5), (6, .int v6), (7, .int s0)]) rfl ?_
      exact p_M_goes_64 _ _ _ _ _ _ _ _ _ r hyp
    · replace hyp := (if_neg c2).symm.trans hyp
      refine rt_st (pc1 := 101) (fun _ _ B => go_icmp_ne_t 99 d_M_goes_61 rfl c2 (go_iload_n 3 d_M_goes_99 rfl (go_iconst (v := (4 : Int32)) d_M_goes_100 (by decide) B))) ?_
      by_cases c3 : v2 = (4 : Int32)
      · replace hyp := (if_pos c3).symm.trans hyp
        refine rt_st (pc1 := 109) (fun _ _ B => go_icmp_eq_t 109 d_M_goes_101 rfl c3 B) ?_
        refine rt_sub [1, 2, 3, 4, 5, 6, 7, 0] (lv1 := [(0, va_rf v0), (1, .int v1), (2, .int v2), (3, .int v3), (4, .int v4), (5, .int v5), (6, .int v6), (7, .int s0)]) rfl ?_
        exact p_M_goes_109 _ _ _ _ _ _ _ _ _ r hyp
      · replace hyp := (if_neg c3).symm.trans hyp
        refine rt_st (pc1 := 106) (fun _ _ B => go_icmp_eq_f d_M_goes_101 rfl c3 (go_iload_n 3 d_M_goes_104 rfl (go_iconst (v := (5 : Int32)) d_M_goes_105 (by decide) B))) ?_
        by_cases c4 : v2 = (5 : Int32)
        · replace hyp := (if_pos c4).symm.trans hyp
          refine rt_st (pc1 := 109) (fun _ _ B => go_icmp_ne_f d_M_goes_106 rfl c4 B) ?_
          refine rt_sub [1, 2, 3, 4, 5, 6, 7, 0] (lv1 := [(0, va_rf v0), (1, .int v1), (2, .int v2), (3, .int v3), (4, .int v4), (5, .int v5), (6, .int v6), (7, .int s0)]) rfl ?_
          exact p_M_goes_109 _ _ _ _ _ _ _ _ _ r hyp
        · replace hyp := (if_neg c4).symm.trans hyp
          refine rt_st (pc1 := 146) (fun _ _ B => go_icmp_ne_t 144 d_M_goes_106 rfl c4 (go_iload_n 3 d_M_goes_144 rfl (go_iconst (v := (5 : Int32)) d_M_goes_145 (by decide) B))) ?_
          by_cases c5 : v2 ≤ (5 : Int32)
          · replace hyp := (if_pos c5).symm.trans hyp
            refine rt_st (pc1 := 199) (fun _ _ B => go_icmp_le_t 199 d_M_goes_146 rfl c5 B) ?_
            refine rt_sub [1, 2, 3, 4, 5, 6, 0] (lv1 := [(0, va_rf v0), (1, .int v1), (2, .int v2), (3, .int v3), (4, .int v4), (5, .int v5), (7, .int s0)]) rfl ?_
            exact p_M_goes_199 _ _ _ _ _ _ _ _ r hyp
          · replace hyp := (if_neg c5).symm.trans hyp
            refine rt_st (pc1 := 154) (fun _ _ B => go_icmp_le_f d_M_goes_146 rfl c5 (go_iload 5 d_M_goes_149 rfl (go_iload_n 3 d_M_goes_151 rfl (go_bipush (v := (6 : Int32)) d_M_goes_152 (by decide) B)))) ?_
            by_cases c6 : v2 = (6 : Int32)
            · replace hyp := (if_pos c6).symm.trans hyp
              refine rt_st (pc1 := 171) (fun _ _ B => go_icmp_ne_f d_M_goes_154 rfl c6 (go_iload 7 d_M_goes_157 rfl (go_callS1 (st := [.int v4]) [.int v6] (t_M_dx v6 h) mm_M_dx (by decide) d_M_goes_159 w1176 w1177 rfl (Nat.le_of_ble_eq_true rfl) rfl (go_goto 171 d_M_goes_162 rfl B)))) ?_
              refine rt_sub [1, 2, 3, 4, 6, 7, 0] (lv1 := [(0, va_rf v0), (1, .int v1), (2, .int v2), (3, .int v3), (5, .int v5), (6, .int v6), (7, .int s0)]) rfl ?_
              exact p_M_goes_171 _ _ _ _ _ _ _ _ _ _ r hyp
            · replace hyp := (if_neg c6).symm.trans hyp
              refine rt_st (pc1 := 171) (fun _ _ B => go_icmp_ne_t 165 d_M_goes_154 rfl c6 (go_iload 7 d_M_goes_165 rfl (go_callS1 (st := [.int v4]) [.int v6] (t_M_dx v6 h) mm_M_dx (by decide) d_M_goes_167 w1176 w1177 rfl (Nat.le_of_ble_eq_true rfl) rfl (go_ineg d_M_goes_170 B)))) ?_
              refine rt_sub [1, 2, 3, 4, 6, 7, 0] (lv1 := [(0, va_rf v0), (1, .int v1), (2, .int v2), (3, .int v3), (5, .int v5), (6, .int v6), (7, .int s0)]) rfl ?_
              exact p_M_goes_171 _ _ _ _ _ _ _ _ _ _ r hyp
set_option maxHeartbeats 4000000 in
set_option maxRecDepth 200000 in
theorem p_M_goes_48 {h0 : MH} (v0 : Option Nat) (v1 : Int32) (v2 : Int32) (v3 : Int32) (v4 : Int32) (v5 : Int32) (v6 : Int32) (s0 : Int32) (s1 : Int32) (h : MH) (r : (Int32 × MH)) : b_M_goes_48  v0 v1 v2 v3 v4 v5 v6 s0 s1 h = some r → Rt mi_M_goes 5 h0 48 [(0, va_rf v0), (1, .int v1), (2, .int v2), (3, .int v3), (4, .int v4), (5, .int v5), (6, .int v6)] [.int s1, .int s0] h (some (.int r.1)) r.2 := by
  intro hyp
  unfold b_M_goes_48 at hyp
  refine rt_st (pc1 := 52) (fun _ _ B => go_iadd d_M_goes_48 (go_bipush (v := (7 : Int32)) d_M_goes_49 (by decide) (go_iand d_M_goes_51 B))) ?_
  exact p_M_goes_52 _ _ _ _ _ _ _ _ _ r hyp
set_option maxHeartbeats 4000000 in
set_option maxRecDepth 200000 in
theorem t_M_goes (v0 : Option Nat) (v1 : Int32) (v2 : Int32) (v3 : Int32) (h : MH) (r : (Int32 × MH)) (hyp : f_M_goes v0 v1 v2 v3 h = some r) : Mt mi_M_goes 5 [va_rf v0, .int v1, .int v2, .int v3] h (some (.int r.1)) r.2 := by
  refine Mt.rt (lv := [(0, va_rf v0), (1, .int v1), (2, .int v2), (3, .int v3)]) (by decide +kernel) (by simp [lv_args, mj_rfc, mj_cti, mj_ctl]) (by simp [mj_rfc, mj_cti, mj_ctl]) ?_
  unfold f_M_goes at hyp
  obtain ⟨x1, e2, hyp⟩ := Option.bind_eq_some_iff.mp hyp
  obtain ⟨x3, e4, hyp⟩ := Option.bind_eq_some_iff.mp hyp
  obtain ⟨x5, e6, hyp⟩ := Option.bind_eq_some_iff.mp hyp
  refine rt_st (pc1 := 26) (fun _ _ B => go_aload_n 0 d_M_goes_0 rfl (go_bipush (v := (14 : Int32)) d_M_goes_1 (by decide) (go_iald d_M_goes_3 e2 (go_bipush (v := (6 : Int32)) d_M_goes_4 (by decide) (go_irem d_M_goes_6 (by decide) (go_istore (lv1 := [(4, .int (mj_irem x1 (6 : Int32))), (0, va_rf v0), (1, .int v1), (2, .int v2), (3, .int v3)]) d_M_goes_7 (by decide) rfl (go_aload_n 1 d_M_goes_9 rfl (go_bipush (v := (14 : Int32)) d_M_goes_10 (by decide) (go_iald d_M_goes_12 e4 (go_bipush (v := (6 : Int32)) d_M_goes_13 (by decide) (go_idiv d_M_goes_15 (by decide) (go_istore (lv1 := [(5, .int (x3 / (6 : Int32))), (4, .int (mj_irem x1 (6 : Int32))), (0, va_rf v0), (1, .int v1), (2, .int v2), (3, .int v3)]) d_M_goes_16 (by decide) rfl (go_aload_n 2 d_M_goes_18 rfl (go_bipush (v := (15 : Int32)) d_M_goes_19 (by decide) (go_iald d_M_goes_21 e6 (go_istore (lv1 := [(6, .int x5), (5, .int (x3 / (6 : Int32))), (4, .int (mj_irem x1 (6 : Int32))), (0, va_rf v0), (1, .int v1), (2, .int v2), (3, .int v3)]) d_M_goes_22 (by decide) rfl (go_iload_n 5 d_M_goes_24 rfl (go_iconst (v := (5 : Int32)) d_M_goes_25 (by decide) B)))))))))))))))))) ?_
  by_cases c7 : v2 ≤ (5 : Int32)
  · replace hyp := (if_pos c7).symm.trans hyp
    refine rt_st (pc1 := 39) (fun _ _ B => go_icmp_le_t 34 d_M_goes_26 rfl c7 (go_iload 0 d_M_goes_34 rfl (go_iload_n 5 d_M_goes_36 rfl (go_iconst (v := (2 : Int32)) d_M_goes_37 (by decide) (go_irem d_M_goes_38 (by decide) B))))) ?_
    by_cases c8 : (mj_irem v2 (2 : Int32)) = 0
    · replace hyp := (if_pos c8).symm.trans hyp
      refine rt_st (pc1 := 48) (fun _ _ B => go_if_ne_f d_M_goes_39 rfl c8 (go_iconst (v := (1 : Int32)) d_M_goes_42 (by decide) (go_goto 48 d_M_goes_43 rfl B))) ?_
      refine rt_sub [3, 4, 5, 6, 2, 1, 0] (lv1 := [(0, va_rf v0), (1, .int v1), (2, .int v2), (3, .int v3), (4, .int (mj_irem x1 (6 : Int32))), (5, .int (x3 / (6 : Int32))), (6, .int x5)]) rfl ?_
      exact p_M_goes_48 _ _ _ _ _ _ _ _ _ _ r hyp
    · replace hyp := (if_neg c8).symm.trans hyp
      refine rt_st (pc1 := 48) (fun _ _ B => go_if_ne_t 46 d_M_goes_39 rfl c8 (go_bipush (v := (7 : Int32)) d_M_goes_46 (by decide) B)) ?_
      refine rt_sub [3, 4, 5, 6, 2, 1, 0] (lv1 := [(0, va_rf v0), (1, .int v1), (2, .int v2), (3, .int v3), (4, .int (mj_irem x1 (6 : Int32))), (5, .int (x3 / (6 : Int32))), (6, .int x5)]) rfl ?_
      exact p_M_goes_48 _ _ _ _ _ _ _ _ _ _ r hyp
  · replace hyp := (if_neg c7).symm.trans hyp
    refine rt_st (pc1 := 52) (fun _ _ B => go_icmp_le_f d_M_goes_26 rfl c7 (go_iload 0 d_M_goes_29 rfl (go_goto 52 d_M_goes_31 rfl B))) ?_
    refine rt_sub [3, 4, 5, 6, 2, 1, 0] (lv1 := [(0, va_rf v0), (1, .int v1), (2, .int v2), (3, .int v3), (4, .int (mj_irem x1 (6 : Int32))), (5, .int (x3 / (6 : Int32))), (6, .int x5)]) rfl ?_
    exact p_M_goes_52 _ _ _ _ _ _ _ _ _ r hyp
/-! WideTurnModel.isHand(I)Z -/
def f_M_isHand (v0 : Option Nat) (v1 : Int32) (h : MH) : Option (Int32) :=
  Option.bind (gfr h v0 [11] 15) fun x1 =>
  Option.bind (ald h x1 0 (4 : Int32)) fun x3 =>
  some (f_M_in v1 (0 : Int32) (x3 - (1 : Int32)))
set_option maxHeartbeats 4000000 in
set_option maxRecDepth 200000 in
theorem t_M_isHand (v0 : Option Nat) (v1 : Int32) (h : MH) (r : (Int32)) (hyp : f_M_isHand v0 v1 h = some r) : Mt mi_M_isHand 2 [va_rf v0, .int v1] h (some (.int r)) h := by
  refine Mt.rt (lv := [(0, va_rf v0), (1, .int v1)]) (by decide +kernel) (by simp [lv_args, mj_rfc, mj_cti, mj_ctl]) (by simp [mj_rfc, mj_cti, mj_ctl]) ?_
  unfold f_M_isHand at hyp
  obtain ⟨x1, e2, hyp⟩ := Option.bind_eq_some_iff.mp hyp
  obtain ⟨x3, e4, hyp⟩ := Option.bind_eq_some_iff.mp hyp
  refine rt_st (pc1 := 13) (fun _ _ B => go_iload_n 1 d_M_isHand_0 rfl (go_iconst (v := (0 : Int32)) d_M_isHand_1 (by decide) (go_aload_n 0 d_M_isHand_2 rfl (go_gfr d_M_isHand_3 fd_11_15 w1004 e2 (go_iconst (v := (4 : Int32)) d_M_isHand_6 (by decide) (go_iald d_M_isHand_7 e4 (go_iconst (v := (1 : Int32)) d_M_isHand_8 (by decide) (go_isub d_M_isHand_9 (go_callS1 (st := []) [.int v1, .int (0 : Int32), .int (x3 - (1 : Int32))] (t_M_in v1 (0 : Int32) (x3 - (1 : Int32)) h) mm_M_in (by decide) d_M_isHand_10 w1073 w1074 rfl (Nat.le_of_ble_eq_true rfl) rfl B))))))))) ?_
  exact rt_eqR Value.int hyp (rt_bool d_M_isHand_13 rfl (z_M_in ..))
/-! WideTurnModel.fitsNow()Z -/
def f_M_fitsNow (v0 : Option Nat) (h : MH) : Option (Int32) :=
  Option.bind (gfr h v0 [11] 15) fun x1 =>
  Option.bind (gfr h v0 [11] 15) fun x3 =>
  Option.bind (ald h x3 0 (14 : Int32)) fun x5 =>
  Option.bind (gfr h v0 [11] 15) fun x7 =>
  Option.bind (ald h x7 0 (14 : Int32)) fun x9 =>
  Option.bind (gfr h v0 [11] 15) fun x11 =>
  Option.bind (ald h x11 0 (15 : Int32)) fun x13 =>
  Option.bind (gfr h v0 [11] 15) fun x15 =>
  Option.bind (f_M_draughtOf x15 (0 : Int32) h) fun x17 =>
  Option.bind (f_M_fits x1 (mj_irem x5 (6 : Int32)) (x9 / (6 : Int32)) x13 x17 h) fun x19 =>
  Option.bind (mj_b01 x19) fun _ =>
  some x19
set_option maxHeartbeats 4000000 in
set_option maxRecDepth 200000 in
theorem t_M_fitsNow (v0 : Option Nat) (h : MH) (r : (Int32)) (hyp : f_M_fitsNow v0 h = some r) : Mt mi_M_fitsNow 5 [va_rf v0] h (some (.int r)) h := by
  refine Mt.rt (lv := [(0, va_rf v0)]) (by decide +kernel) (by simp [lv_args, mj_rfc, mj_cti, mj_ctl]) (by simp [mj_rfc, mj_cti, mj_ctl]) ?_
  unfold f_M_fitsNow at hyp
  obtain ⟨x1, e2, hyp⟩ := Option.bind_eq_some_iff.mp hyp
  obtain ⟨x3, e4, hyp⟩ := Option.bind_eq_some_iff.mp hyp
  obtain ⟨x5, e6, hyp⟩ := Option.bind_eq_some_iff.mp hyp
  obtain ⟨x7, e8, hyp⟩ := Option.bind_eq_some_iff.mp hyp
  obtain ⟨x9, e10, hyp⟩ := Option.bind_eq_some_iff.mp hyp
  obtain ⟨x11, e12, hyp⟩ := Option.bind_eq_some_iff.mp hyp
  obtain ⟨x13, e14, hyp⟩ := Option.bind_eq_some_iff.mp hyp
  obtain ⟨x15, e16, hyp⟩ := Option.bind_eq_some_iff.mp hyp
  obtain ⟨x17, e18, hyp⟩ := Option.bind_eq_some_iff.mp hyp
  obtain ⟨x19, e20, hyp⟩ := Option.bind_eq_some_iff.mp hyp
  refine rt_st (pc1 := 42) (fun _ _ B => go_aload_n 0 d_M_fitsNow_0 rfl (go_gfr d_M_fitsNow_1 fd_11_15 w1004 e2 (go_aload_n 0 d_M_fitsNow_4 rfl (go_gfr d_M_fitsNow_5 fd_11_15 w1004 e4 (go_bipush (v := (14 : Int32)) d_M_fitsNow_8 (by decide) (go_iald d_M_fitsNow_10 e6 (go_bipush (v := (6 : Int32)) d_M_fitsNow_11 (by decide) (go_irem d_M_fitsNow_13 (by decide) (go_aload_n 0 d_M_fitsNow_14 rfl (go_gfr d_M_fitsNow_15 fd_11_15 w1004 e8 (go_bipush (v := (14 : Int32)) d_M_fitsNow_18 (by decide) (go_iald d_M_fitsNow_20 e10 (go_bipush (v := (6 : Int32)) d_M_fitsNow_21 (by decide) (go_idiv d_M_fitsNow_23 (by decide) (go_aload_n 0 d_M_fitsNow_24 rfl (go_gfr d_M_fitsNow_25 fd_11_15 w1004 e12 (go_bipush (v := (15 : Int32)) d_M_fitsNow_28 (by decide) (go_iald d_M_fitsNow_30 e14 (go_aload_n 0 d_M_fitsNow_31 rfl (go_gfr d_M_fitsNow_32 fd_11_15 w1004 e16 (go_iconst (v := (0 : Int32)) d_M_fitsNow_35 (by decide) (go_callS1 (st := [.int x13, .int (x9 / (6 : Int32)), .int (mj_irem x5 (6 : Int32)), va_rf x1]) [va_rf x15, .int (0 : Int32)] (t_M_draughtOf x15 (0 : Int32) h _ e18) mm_M_draughtOf (by decide) d_M_fitsNow_36 w1182 w1183 rfl (Nat.le_of_ble_eq_true rfl) rfl (go_callS1 (st := []) [va_rf x1, .int (mj_irem x5 (6 : Int32)), .int (x9 / (6 : Int32)), .int x13, .int x17] (t_M_fits x1 (mj_irem x5 (6 : Int32)) (x9 / (6 : Int32)) x13 x17 h _ e20) mm_M_fits (by decide) d_M_fitsNow_39 w1188 w1189 rfl (Nat.le_of_ble_eq_true rfl) rfl B))))))))))))))))))))))) ?_
  obtain ⟨_, e21, hyp⟩ := Option.bind_eq_some_iff.mp hyp
  exact rt_eqR Value.int hyp (rt_bool d_M_fitsNow_42 rfl (mj_b01_spec e21))
/-! WideTurnModel.move(II)I -/
def f_M_move (F : Nat) (v0 : Option Nat) (v1 : Int32) (v2 : Int32) (h : MH) : Option (Int32 × MH) :=
  Option.bind (pfv h v0 [11] 0 (.int (0 : Int32))) fun h1 =>
  Option.bind (onc h1 v0 11 (f_M_isHand v0 v1 h1)) fun x3 =>
  if x3 = 0 then
    some ((-1000001 : Int32), h1)
  else
    if (f_M_in v2 (0 : Int32) (7 : Int32)) = 0 then
      some ((-1000001 : Int32), h1)
    else
      Option.bind (gfr h1 v0 [11] 15) fun x7 =>
      Option.bind (gfr h1 v0 [11] 16) fun x9 =>
      Option.bind (f_M_copies F x7 x9 h1) fun h11 =>
      Option.bind (gfr h11 v0 [11] 16) fun x13 =>
      Option.bind (f_M_goes x13 v1 v2 (0 : Int32) h11) fun x15 =>
      if x15.1 = 0 then
        some ((-1000002 : Int32), x15.2)
      else
        Option.bind (gfr x15.2 v0 [11] 15) fun x18 =>
        Option.bind (ald x15.2 x18 0 (17 : Int32)) fun x20 =>
        if x20 = (999 : Int32) then
          some ((-1000003 : Int32), x15.2)
        else
          Option.bind (onc x15.2 v0 11 (f_M_notes F v0 x15.2)) fun h23 =>
          Option.bind (gfr h23 v0 [11] 16) fun x25 =>
          Option.bind (gfr h23 v0 [11] 15) fun x27 =>
          Option.bind (f_M_copies F x25 x27 h23) fun h29 =>
          Option.bind (gfr h29 v0 [11] 15) fun x31 =>
          Option.bind (f_M_minutesOf x31 v1 v2 h29) fun x33 =>
          some (x33, h29)
set_option maxHeartbeats 4000000 in
set_option maxRecDepth 200000 in
theorem t_M_move (F : Nat) (v0 : Option Nat) (v1 : Int32) (v2 : Int32) (h : MH) (r : (Int32 × MH)) (hyp : f_M_move F v0 v1 v2 h = some r) : Mt mi_M_move 6 [va_rf v0, .int v1, .int v2] h (some (.int r.1)) r.2 := by
  refine Mt.rt (lv := [(0, va_rf v0), (1, .int v1), (2, .int v2)]) (by decide +kernel) (by simp [lv_args, mj_rfc, mj_cti, mj_ctl]) (by simp [mj_rfc, mj_cti, mj_ctl]) ?_
  unfold f_M_move at hyp
  obtain ⟨h1, e2, hyp⟩ := Option.bind_eq_some_iff.mp hyp
  obtain ⟨x3, e4, hyp⟩ := Option.bind_eq_some_iff.mp hyp
  refine rt_st (pc1 := 10) (fun _ _ B => go_aload_n 0 d_M_move_0 rfl (go_iconst (v := (0 : Int32)) d_M_move_1 (by decide) (go_pfi d_M_move_2 fd_11_0 w989 (fun q => by cases q) e2 (go_aload_n 0 d_M_move_5 rfl (go_iload_n 1 d_M_move_6 rfl (go_callV1 (q := q_11) (st := []) [.int v1] (t_M_isHand v0 v1 h1 _ (onc_spec e4).2) mm_M_isHand (by decide) d_M_move_7 (onc_spec e4).1 rfl rfl w1169 w1171 w40 rfl (Nat.le_of_ble_eq_true rfl) rfl B)))))) ?_
  by_cases c5 : x3 = 0
  · replace hyp := (if_pos c5).symm.trans hyp
    refine rt_st (pc1 := 25) (fun _ _ B => go_if_eq_t 23 d_M_move_10 rfl c5 (go_ldc (v := (-1000001 : Int32)) d_M_move_23 w1076 B)) ?_
    exact rt_eqW Value.int hyp (rt_int d_M_move_25 rfl)
  · replace hyp := (if_neg c5).symm.trans hyp
    refine rt_st (pc1 := 20) (fun _ _ B => go_if_eq_f d_M_move_10 rfl c5 (go_iload_n 2 d_M_move_13 rfl (go_iconst (v := (0 : Int32)) d_M_move_14 (by decide) (go_bipush (v := (7 : Int32)) d_M_move_15 (by decide) (go_callS1 (st := []) [.int v2, .int (0 : Int32), .int (7 : Int32)] (t_M_in v2 (0 : Int32) (7 : Int32) h1) mm_M_in (by decide) d_M_move_17 w1073 w1074 rfl (Nat.le_of_ble_eq_true rfl) rfl B))))) ?_
    by_cases c6 : (f_M_in v2 (0 : Int32) (7 : Int32)) = 0
    · replace hyp := (if_pos c6).symm.trans hyp
      refine rt_st (pc1 := 25) (fun _ _ B => go_if_ne_f d_M_move_20 rfl c6 (go_ldc (v := (-1000001 : Int32)) d_M_move_23 w1076 B)) ?_
      exact rt_eqW Value.int hyp (rt_int d_M_move_25 rfl)
    · replace hyp := (if_neg c6).symm.trans hyp
      obtain ⟨x7, e8, hyp⟩ := Option.bind_eq_some_iff.mp hyp
      obtain ⟨x9, e10, hyp⟩ := Option.bind_eq_some_iff.mp hyp
      obtain ⟨h11, e12, hyp⟩ := Option.bind_eq_some_iff.mp hyp
      obtain ⟨x13, e14, hyp⟩ := Option.bind_eq_some_iff.mp hyp
      obtain ⟨x15, e16, hyp⟩ := Option.bind_eq_some_iff.mp hyp
      refine rt_st (pc1 := 47) (fun _ _ B => go_if_ne_t 26 d_M_move_20 rfl c6 (go_aload_n 0 d_M_move_26 rfl (go_gfr d_M_move_27 fd_11_15 w1004 e8 (go_aload_n 0 d_M_move_30 rfl (go_gfr d_M_move_31 fd_11_16 w1005 e10 (go_callS0 (st := []) [va_rf x7, va_rf x9] (t_M_copies F x7 x9 h1 _ e12) mm_M_copies (by decide) d_M_move_34 w1153 w1154 rfl (Nat.le_of_ble_eq_true rfl) rfl (go_aload_n 0 d_M_move_37 rfl (go_gfr d_M_move_38 fd_11_16 w1005 e14 (go_iload_n 1 d_M_move_41 rfl (go_iload_n 2 d_M_move_42 rfl (go_iconst (v := (0 : Int32)) d_M_move_43 (by decide) (go_callS1 (st := []) [va_rf x13, .int v1, .int v2, .int (0 : Int32)] (t_M_goes x13 v1 v2 (0 : Int32) h11 _ e16) mm_M_goes (by decide) d_M_move_44 w1173 w1174 rfl (Nat.le_of_ble_eq_true rfl) rfl B)))))))))))) ?_
      by_cases c17 : x15.1 = 0
      · replace hyp := (if_pos c17).symm.trans hyp
        refine rt_st (pc1 := 52) (fun _ _ B => go_if_ne_f d_M_move_47 rfl c17 (go_ldc (v := (-1000002 : Int32)) d_M_move_50 w1164 B)) ?_
        exact rt_eqW Value.int hyp (rt_int d_M_move_52 rfl)
      · replace hyp := (if_neg c17).symm.trans hyp
        obtain ⟨x18, e19, hyp⟩ := Option.bind_eq_some_iff.mp hyp
        obtain ⟨x20, e21, hyp⟩ := Option.bind_eq_some_iff.mp hyp
        refine rt_st (pc1 := 63) (fun _ _ B => go_if_ne_t 53 d_M_move_47 rfl c17 (go_aload_n 0 d_M_move_53 rfl (go_gfr d_M_move_54 fd_11_15 w1004 e19 (go_bipush (v := (17 : Int32)) d_M_move_57 (by decide) (go_iald d_M_move_59 e21 (go_sipush (v := (999 : Int32)) d_M_move_60 (by decide) B)))))) ?_
        by_cases c22 : x20 = (999 : Int32)
        · replace hyp := (if_pos c22).symm.trans hyp
          refine rt_st (pc1 := 68) (fun _ _ B => go_icmp_ne_f d_M_move_63 rfl c22 (go_ldc (v := (-1000003 : Int32)) d_M_move_66 w1109 B)) ?_
          exact rt_eqW Value.int hyp (rt_int d_M_move_68 rfl)
        · replace hyp := (if_neg c22).symm.trans hyp
          obtain ⟨h23, e24, hyp⟩ := Option.bind_eq_some_iff.mp hyp
          obtain ⟨x25, e26, hyp⟩ := Option.bind_eq_some_iff.mp hyp
          obtain ⟨x27, e28, hyp⟩ := Option.bind_eq_some_iff.mp hyp
          obtain ⟨h29, e30, hyp⟩ := Option.bind_eq_some_iff.mp hyp
          obtain ⟨x31, e32, hyp⟩ := Option.bind_eq_some_iff.mp hyp
          obtain ⟨x33, e34, hyp⟩ := Option.bind_eq_some_iff.mp hyp
          refine rt_st (pc1 := 93) (fun _ _ B => go_icmp_ne_t 69 d_M_move_63 rfl c22 (go_aload_n 0 d_M_move_69 rfl (go_callV0 (q := q_11) (st := []) [] (t_M_notes F v0 x15.2 _ (onc_spec e24).2) mm_M_notes (by decide) d_M_move_70 (onc_spec e24).1 rfl rfl w1197 w1199 w41 rfl (Nat.le_of_ble_eq_true rfl) rfl (go_aload_n 0 d_M_move_73 rfl (go_gfr d_M_move_74 fd_11_16 w1005 e26 (go_aload_n 0 d_M_move_77 rfl (go_gfr d_M_move_78 fd_11_15 w1004 e28 (go_callS0 (st := []) [va_rf x25, va_rf x27] (t_M_copies F x25 x27 h23 _ e30) mm_M_copies (by decide) d_M_move_81 w1153 w1154 rfl (Nat.le_of_ble_eq_true rfl) rfl (go_aload_n 0 d_M_move_84 rfl (go_gfr d_M_move_85 fd_11_15 w1004 e32 (go_iload_n 1 d_M_move_88 rfl (go_iload_n 2 d_M_move_89 rfl (go_callS1 (st := []) [va_rf x31, .int v1, .int v2] (t_M_minutesOf x31 v1 v2 h29 _ e34) mm_M_minutesOf (by decide) d_M_move_90 w1201 w1202 rfl (Nat.le_of_ble_eq_true rfl) rfl B))))))))))))) ?_
          exact rt_eqW Value.int hyp (rt_int d_M_move_93 rfl)
/-! WideTurnModel.laden(I)I -/
def f_M_laden (F : Nat) (v0 : Option Nat) (v1 : Int32) (h : MH) : Option (Int32 × MH) :=
  Option.bind (pfv h v0 [11] 0 (.int (0 : Int32))) fun h1 =>
  Option.bind (gfr h1 v0 [11] 15) fun x3 =>
  Option.bind (ald h1 x3 0 (0 : Int32)) fun x5 =>
  if x5 = 0 then
    some ((-1000002 : Int32), h1)
  else
    if (f_M_in v1 (0 : Int32) (1 : Int32)) = 0 then
      some ((-1000001 : Int32), h1)
    else
      Option.bind (gfr h1 v0 [11] 15) fun x9 =>
      Option.bind (ald h1 x9 0 (16 : Int32)) fun x11 =>
      if x11 = v1 then
        some ((-1000002 : Int32), h1)
      else
        Option.bind (onc h1 v0 11 (f_M_notes F v0 h1)) fun h14 =>
        Option.bind (gfr h14 v0 [11] 15) fun x16 =>
        Option.bind (ast h14 x16 0 (16 : Int32) v1) fun h18 =>
        Option.bind (gfr h18 v0 [11] 15) fun x20 =>
        Option.bind (f_M_draughtOf x20 (0 : Int32) h18) fun x22 =>
        some (x22, h18)
set_option maxHeartbeats 4000000 in
set_option maxRecDepth 200000 in
theorem t_M_laden (F : Nat) (v0 : Option Nat) (v1 : Int32) (h : MH) (r : (Int32 × MH)) (hyp : f_M_laden F v0 v1 h = some r) : Mt mi_M_laden 2 [va_rf v0, .int v1] h (some (.int r.1)) r.2 := by
  refine Mt.rt (lv := [(0, va_rf v0), (1, .int v1)]) (by decide +kernel) (by simp [lv_args, mj_rfc, mj_cti, mj_ctl]) (by simp [mj_rfc, mj_cti, mj_ctl]) ?_
  unfold f_M_laden at hyp
  obtain ⟨h1, e2, hyp⟩ := Option.bind_eq_some_iff.mp hyp
  obtain ⟨x3, e4, hyp⟩ := Option.bind_eq_some_iff.mp hyp
  obtain ⟨x5, e6, hyp⟩ := Option.bind_eq_some_iff.mp hyp
  refine rt_st (pc1 := 11) (fun _ _ B => go_aload_n 0 d_M_laden_0 rfl (go_iconst (v := (0 : Int32)) d_M_laden_1 (by decide) (go_pfi d_M_laden_2 fd_11_0 w989 (fun q => by cases q) e2 (go_aload_n 0 d_M_laden_5 rfl (go_gfr d_M_laden_6 fd_11_15 w1004 e4 (go_iconst (v := (0 : Int32)) d_M_laden_9 (by decide) (go_iald d_M_laden_10 e6 B))))))) ?_
  by_cases c7 : x5 = 0
  · replace hyp := (if_pos c7).symm.trans hyp
    refine rt_st (pc1 := 16) (fun _ _ B => go_if_ne_f d_M_laden_11 rfl c7 (go_ldc (v := (-1000002 : Int32)) d_M_laden_14 w1164 B)) ?_
    exact rt_eqW Value.int hyp (rt_int d_M_laden_16 rfl)
  · replace hyp := (if_neg c7).symm.trans hyp
    refine rt_st (pc1 := 23) (fun _ _ B => go_if_ne_t 17 d_M_laden_11 rfl c7 (go_iload_n 1 d_M_laden_17 rfl (go_iconst (v := (0 : Int32)) d_M_laden_18 (by decide) (go_iconst (v := (1 : Int32)) d_M_laden_19 (by decide) (go_callS1 (st := []) [.int v1, .int (0 : Int32), .int (1 : Int32)] (t_M_in v1 (0 : Int32) (1 : Int32) h1) mm_M_in (by decide) d_M_laden_20 w1073 w1074 rfl (Nat.le_of_ble_eq_true rfl) rfl B))))) ?_
    by_cases c8 : (f_M_in v1 (0 : Int32) (1 : Int32)) = 0
    · replace hyp := (if_pos c8).symm.trans hyp
      refine rt_st (pc1 := 28) (fun _ _ B => go_if_ne_f d_M_laden_23 rfl c8 (go_ldc (v := (-1000001 : Int32)) d_M_laden_26 w1076 B)) ?_
      exact rt_eqW Value.int hyp (rt_int d_M_laden_28 rfl)
    · replace hyp := (if_neg c8).symm.trans hyp
      obtain ⟨x9, e10, hyp⟩ := Option.bind_eq_some_iff.mp hyp
      obtain ⟨x11, e12, hyp⟩ := Option.bind_eq_some_iff.mp hyp
      refine rt_st (pc1 := 37) (fun _ _ B => go_if_ne_t 29 d_M_laden_23 rfl c8 (go_aload_n 0 d_M_laden_29 rfl (go_gfr d_M_laden_30 fd_11_15 w1004 e10 (go_bipush (v := (16 : Int32)) d_M_laden_33 (by decide) (go_iald d_M_laden_35 e12 (go_iload_n 1 d_M_laden_36 rfl B)))))) ?_
      by_cases c13 : x11 = v1
      · replace hyp := (if_pos c13).symm.trans hyp
        refine rt_st (pc1 := 42) (fun _ _ B => go_icmp_ne_f d_M_laden_37 rfl c13 (go_ldc (v := (-1000002 : Int32)) d_M_laden_40 w1164 B)) ?_
        exact rt_eqW Value.int hyp (rt_int d_M_laden_42 rfl)
      · replace hyp := (if_neg c13).symm.trans hyp
        obtain ⟨h14, e15, hyp⟩ := Option.bind_eq_some_iff.mp hyp
        obtain ⟨x16, e17, hyp⟩ := Option.bind_eq_some_iff.mp hyp
        obtain ⟨h18, e19, hyp⟩ := Option.bind_eq_some_iff.mp hyp
        obtain ⟨x20, e21, hyp⟩ := Option.bind_eq_some_iff.mp hyp
        obtain ⟨x22, e23, hyp⟩ := Option.bind_eq_some_iff.mp hyp
        refine rt_st (pc1 := 63) (fun _ _ B => go_icmp_ne_t 43 d_M_laden_37 rfl c13 (go_aload_n 0 d_M_laden_43 rfl (go_callV0 (q := q_11) (st := []) [] (t_M_notes F v0 h1 _ (onc_spec e15).2) mm_M_notes (by decide) d_M_laden_44 (onc_spec e15).1 rfl rfl w1197 w1199 w41 rfl (Nat.le_of_ble_eq_true rfl) rfl (go_aload_n 0 d_M_laden_47 rfl (go_gfr d_M_laden_48 fd_11_15 w1004 e17 (go_bipush (v := (16 : Int32)) d_M_laden_51 (by decide) (go_iload_n 1 d_M_laden_53 rfl (go_iast d_M_laden_54 e19 (go_aload_n 0 d_M_laden_55 rfl (go_gfr d_M_laden_56 fd_11_15 w1004 e21 (go_iconst (v := (0 : Int32)) d_M_laden_59 (by decide) (go_callS1 (st := []) [va_rf x20, .int (0 : Int32)] (t_M_draughtOf x20 (0 : Int32) h18 _ e23) mm_M_draughtOf (by decide) d_M_laden_60 w1182 w1183 rfl (Nat.le_of_ble_eq_true rfl) rfl B)))))))))))) ?_
        exact rt_eqW Value.int hyp (rt_int d_M_laden_63 rfl)
/-! WideTurnModel.boatCells()I -/
def b_M_boatCells_81 (F : Nat) (h : MH) (k4 : (Option Nat) → Int32 → Int32 → (Option (Int32))) : (Option Nat) → (Int32) → (Int32) → (Int32) → (Option (Int32)) := fun v0 v2 s0 s1 => 
  k4 v0 (s0 ||| s1) (v2 + (1 : Int32))
def b_M_boatCells_4 (F : Nat) (h : MH) : Nat → (Option Nat) → (Int32) → (Int32) → (Option (Int32))
  | 0 => fun _ _ _ => none
  | n + 1 => fun v0 v1 v2 => 
    if (2 : Int32) ≤ v2 then
      some v1
    else
      Option.bind (gfr h v0 [11] 15) fun x2 =>
      Option.bind (ald h x2 0 (14 : Int32)) fun x4 =>
      Option.bind (gfr h v0 [11] 15) fun x6 =>
      Option.bind (ald h x6 0 (15 : Int32)) fun x8 =>
      Option.bind (gfr h v0 [11] 15) fun x10 =>
      Option.bind (ald h x10 0 (14 : Int32)) fun x12 =>
      Option.bind (gfr h v0 [11] 15) fun x14 =>
      Option.bind (ald h x14 0 (15 : Int32)) fun x16 =>
      if (f_M_isCell ((mj_irem x4 (6 : Int32)) + (v2 * (f_M_dx x8))) ((x12 / (6 : Int32)) + (v2 * (f_M_dy x16)))) = 0 then
        b_M_boatCells_81 F h (b_M_boatCells_4 F h n) v0 v2 v1 (0 : Int32)
      else
        b_M_boatCells_81 F h (b_M_boatCells_4 F h n) v0 v2 v1 ((1 : Int32) <<< ((((6 : Int32) * ((x12 / (6 : Int32)) + (v2 * (f_M_dy x16)))) + ((mj_irem x4 (6 : Int32)) + (v2 * (f_M_dx x8)))) &&& 31))
def f_M_boatCells (F : Nat) (v0 : Option Nat) (h : MH) : Option (Int32) :=
  b_M_boatCells_4 F h F v0 (0 : Int32) (-1 : Int32)
set_option maxHeartbeats 4000000 in
set_option maxRecDepth 200000 in
theorem p_M_boatCells_81 (F : Nat) (h : MH) {h0 : MH} (k4 : (Option Nat) → Int32 → Int32 → (Option (Int32))) (hk4 : ∀ (v0 : Option Nat) (v1 : Int32) (v2 : Int32) (r : (Int32)), k4 v0 v1 v2 = some r → Rt mi_M_boatCells 3 h0 4 [(0, va_rf v0), (1, .int v1), (2, .int v2)] [] h (some (.int r)) h) (v0 : Option Nat) (v2 : Int32) (s0 : Int32) (s1 : Int32) (r : (Int32)) : b_M_boatCells_81 F h k4  v0 v2 s0 s1 = some r → Rt mi_M_boatCells 3 h0 81 [(0, va_rf v0), (2, .int v2)] [.int s1, .int s0] h (some (.int r)) h := by
  intro hyp
  unfold b_M_boatCells_81 at hyp
  refine rt_st (pc1 := 4) (fun _ _ B => go_ior d_M_boatCells_81 (go_istore_n (lv1 := [(1, .int (s0 ||| s1)), (0, va_rf v0), (2, .int v2)]) d_M_boatCells_82 (by decide) (by first | (simp [mj_s1, mj_s2, mj_rfc, mj_cti, mj_ctl]; done) | (simp [mj_s1, mj_s2, mj_rfc, mj_cti, mj_ctl]; decide)) (go_iinc (v := (v2 + (1 : Int32))) (lv1 := [(2, .int (v2 + (1 : Int32))), (1, .int (s0 ||| s1)), (0, va_rf v0)]) 2 d_M_boatCells_83 rfl rfl (by decide) rfl (go_goto 4 d_M_boatCells_86 rfl B)))) ?_
  refine rt_sub [2, 1, 0] (lv1 := [(0, va_rf v0), (1, .int (s0 ||| s1)), (2, .int (v2 + (1 : Int32)))]) rfl ?_
  exact hk4 _ _ _ _ hyp
set_option maxHeartbeats 4000000 in
set_option maxRecDepth 200000 in
theorem p_M_boatCells_4 (F : Nat) (h : MH) {h0 : MH} : ∀ (n : Nat) (v0 : Option Nat) (v1 : Int32) (v2 : Int32) (r : (Int32)), b_M_boatCells_4 F h  n v0 v1 v2 = some r → Rt mi_M_boatCells 3 h0 4 [(0, va_rf v0), (1, .int v1), (2, .int v2)] [] h (some (.int r)) h := by
  intro n
  induction n with
  | zero =>
    intro v0 v1 v2 r hyp
    cases hyp
  | succ n ih =>
    intro v0 v1 v2 r hyp
    unfold b_M_boatCells_4 at hyp
    refine rt_st (pc1 := 6) (fun _ _ B => go_iload_n 2 d_M_boatCells_4 rfl (go_iconst (v := (2 : Int32)) d_M_boatCells_5 (by decide) B)) ?_
    by_cases c1 : (2 : Int32) ≤ v2
    · replace hyp := (if_pos c1).symm.trans hyp
      refine rt_st (pc1 := 90) (fun _ _ B => go_icmp_ge_t 89 d_M_boatCells_6 rfl c1 (go_iload_n 1 d_M_boatCells_89 rfl B)) ?_
      exact rt_eqR Value.int hyp (rt_int d_M_boatCells_90 rfl)
    · replace hyp := (if_neg c1).symm.trans hyp
      obtain ⟨x2, e3, hyp⟩ := Option.bind_eq_some_iff.mp hyp
      obtain ⟨x4, e5, hyp⟩ := Option.bind_eq_some_iff.mp hyp
      obtain ⟨x6, e7, hyp⟩ := Option.bind_eq_some_iff.mp hyp
      obtain ⟨x8, e9, hyp⟩ := Option.bind_eq_some_iff.mp hyp
      obtain ⟨x10, e11, hyp⟩ := Option.bind_eq_some_iff.mp hyp
      obtain ⟨x12, e13, hyp⟩ := Option.bind_eq_some_iff.mp hyp
      obtain ⟨x14, e15, hyp⟩ := Option.bind_eq_some_iff.mp hyp
      obtain ⟨x16, e17, hyp⟩ := Option.bind_eq_some_iff.mp hyp
      refine rt_st (pc1 := 65) (fun _ _ B => go_icmp_ge_f d_M_boatCells_6 rfl c1 (go_aload_n 0 d_M_boatCells_9 rfl (go_gfr d_M_boatCells_10 fd_11_15 w1004 e3 (go_bipush (v := (14 : Int32)) d_M_boatCells_13 (by decide) (go_iald d_M_boatCells_15 e5 (go_bipush (v := (6 : Int32)) d_M_boatCells_16 (by decide) (go_irem d_M_boatCells_18 (by decide) (go_iload_n 2 d_M_boatCells_19 rfl (go_aload_n 0 d_M_boatCells_20 rfl (go_gfr d_M_boatCells_21 fd_11_15 w1004 e7 (go_bipush (v := (15 : Int32)) d_M_boatCells_24 (by decide) (go_iald d_M_boatCells_26 e9 (go_callS1 (st := [.int v2, .int (mj_irem x4 (6 : Int32))]) [.int x8] (t_M_dx x8 h) mm_M_dx (by decide) d_M_boatCells_27 w1176 w1177 rfl (Nat.le_of_ble_eq_true rfl) rfl (go_imul d_M_boatCells_30 (go_iadd d_M_boatCells_31 (go_istore_n (lv1 := [(3, .int ((mj_irem x4 (6 : Int32)) + (v2 * (f_M_dx x8)))), (0, va_rf v0), (1, .int v1), (2, .int v2)]) d_M_boatCells_32 (by decide) rfl (go_aload_n 1 d_M_boatCells_33 rfl (go_gfr d_M_boatCells_34 fd_11_15 w1004 e11 (go_bipush (v := (14 : Int32)) d_M_boatCells_37 (by decide) (go_iald d_M_boatCells_39 e13 (go_bipush (v := (6 : Int32)) d_M_boatCells_40 (by decide) (go_idiv d_M_boatCells_42 (by decide) (go_iload_n 3 d_M_boatCells_43 rfl (go_aload_n 1 d_M_boatCells_44 rfl (go_gfr d_M_boatCells_45 fd_11_15 w1004 e15 (go_bipush (v := (15 : Int32)) d_M_boatCells_48 (by decide) (go_iald d_M_boatCells_50 e17 (go_callS1 (st := [.int v2, .int (x12 / (6 : Int32))]) [.int x16] (t_M_dy x16 h) mm_M_dy (by decide) d_M_boatCells_51 w1179 w1180 rfl (Nat.le_of_ble_eq_true rfl) rfl (go_imul d_M_boatCells_54 (go_iadd d_M_boatCells_55 (go_istore (lv1 := [(4, .int ((x12 / (6 : Int32)) + (v2 * (f_M_dy x16)))), (3, .int ((mj_irem x4 (6 : Int32)) + (v2 * (f_M_dx x8)))), (0, va_rf v0), (1, .int v1), (2, .int v2)]) d_M_boatCells_56 (by decide) rfl (go_iload_n 3 d_M_boatCells_58 rfl (go_iload_n 1 d_M_boatCells_59 rfl (go_iload 0 d_M_boatCells_60 rfl (go_callS1 (st := [.int v1]) [.int ((mj_irem x4 (6 : Int32)) + (v2 * (f_M_dx x8))), .int ((x12 / (6 : Int32)) + (v2 * (f_M_dy x16)))] (t_M_isCell ((mj_irem x4 (6 : Int32)) + (v2 * (f_M_dx x8))) ((x12 / (6 : Int32)) + (v2 * (f_M_dy x16))) h) mm_M_isCell (by decide) d_M_boatCells_62 w1194 w1195 rfl (Nat.le_of_ble_eq_true rfl) rfl B))))))))))))))))))))))))))))))))))) ?_
      by_cases c18 : (f_M_isCell ((mj_irem x4 (6 : Int32)) + (v2 * (f_M_dx x8))) ((x12 / (6 : Int32)) + (v2 * (f_M_dy x16)))) = 0
      · replace hyp := (if_pos c18).symm.trans hyp
        refine rt_st (pc1 := 81) (fun _ _ B => go_if_eq_t 80 d_M_boatCells_65 rfl c18 (go_iconst (v := (0 : Int32)) d_M_boatCells_80 (by decide) B)) ?_
        refine rt_sub [2, 4] (lv1 := [(0, va_rf v0), (2, .int v2)]) rfl ?_
        exact p_M_boatCells_81 F h (b_M_boatCells_4 F h n) (fun a0 a1 a2 r hyp => ih a0 a1 a2 r hyp) _ _ _ _ r hyp
      · replace hyp := (if_neg c18).symm.trans hyp
        refine rt_st (pc1 := 81) (fun _ _ B => go_if_eq_f d_M_boatCells_65 rfl c18 (go_iconst (v := (1 : Int32)) d_M_boatCells_68 (by decide) (go_bipush (v := (6 : Int32)) d_M_boatCells_69 (by decide) (go_iload 0 d_M_boatCells_71 rfl (go_imul d_M_boatCells_73 (go_iload_n 1 d_M_boatCells_74 rfl (go_iadd d_M_boatCells_75 (go_ishl d_M_boatCells_76 (go_goto 81 d_M_boatCells_77 rfl B))))))))) ?_
        refine rt_sub [2, 4] (lv1 := [(0, va_rf v0), (2, .int v2)]) rfl ?_
        exact p_M_boatCells_81 F h (b_M_boatCells_4 F h n) (fun a0 a1 a2 r hyp => ih a0 a1 a2 r hyp) _ _ _ _ r hyp
set_option maxHeartbeats 4000000 in
set_option maxRecDepth 200000 in
theorem t_M_boatCells (F : Nat) (v0 : Option Nat) (h : MH) (r : (Int32)) (hyp : f_M_boatCells F v0 h = some r) : Mt mi_M_boatCells 3 [va_rf v0] h (some (.int r)) h := by
  refine Mt.rt (lv := [(0, va_rf v0)]) (by decide +kernel) (by simp [lv_args, mj_rfc, mj_cti, mj_ctl]) (by simp [mj_rfc, mj_cti, mj_ctl]) ?_
  unfold f_M_boatCells at hyp
  refine rt_st (pc1 := 4) (fun _ _ B => go_iconst (v := (0 : Int32)) d_M_boatCells_0 (by decide) (go_istore_n (lv1 := [(1, .int (0 : Int32)), (0, va_rf v0)]) d_M_boatCells_1 (by decide) (by first | (simp [mj_s1, mj_s2, mj_rfc, mj_cti, mj_ctl]; done) | (simp [mj_s1, mj_s2, mj_rfc, mj_cti, mj_ctl]; decide)) (go_iconst (v := (-1 : Int32)) d_M_boatCells_2 (by decide) (go_istore_n (lv1 := [(2, .int (-1 : Int32)), (1, .int (0 : Int32)), (0, va_rf v0)]) d_M_boatCells_3 (by decide) rfl B)))) ?_
  refine rt_sub [2, 1, 0] (lv1 := [(0, va_rf v0), (1, .int (0 : Int32)), (2, .int (-1 : Int32))]) rfl ?_
  exact p_M_boatCells_4 F h F _ _ _ r hyp
/-! WideTurnModel.moor(II)I -/
def b_M_moor_96 (F : Nat) : (Option Nat) → (Int32) → (MH) → (Option (Int32 × MH)) := fun v0 v1 h => 
  Option.bind (onc h v0 11 (f_M_notes F v0 h)) fun h1 =>
  Option.bind (gfr h1 v0 [11] 15) fun x3 =>
  Option.bind (ald h1 x3 0 (13 : Int32)) fun x5 =>
  Option.bind (ast h1 x3 0 (13 : Int32) (x5 ^^^ ((1 : Int32) <<< (v1 &&& 31)))) fun h7 =>
  Option.bind (gfr h7 v0 [11] 15) fun x9 =>
  Option.bind (ald h7 x9 0 (13 : Int32)) fun x11 =>
  Option.bind (f_M_ones F x11) fun x13 =>
  some (x13, h7)
def b_M_moor_74 (F : Nat) : (Option Nat) → (Int32) → (Int32) → (MH) → (Option (Int32 × MH)) := fun v0 v1 v2 h => 
  if v2 = (1 : Int32) then
    Option.bind (gfr h v0 [11] 15) fun x2 =>
    Option.bind (ald h x2 0 (13 : Int32)) fun x4 =>
    Option.bind (f_M_ones F x4) fun x6 =>
    if x6 = (4 : Int32) then
      some ((-1000003 : Int32), h)
    else
      b_M_moor_96 F v0 v1 h
  else
    b_M_moor_96 F v0 v1 h
def f_M_moor (F : Nat) (v0 : Option Nat) (v1 : Int32) (v2 : Int32) (h : MH) : Option (Int32 × MH) :=
  Option.bind (pfv h v0 [11] 0 (.int (0 : Int32))) fun h1 =>
  Option.bind (gfr h1 v0 [11] 15) fun x3 =>
  Option.bind (ald h1 x3 0 (0 : Int32)) fun x5 =>
  if x5 = 0 then
    some ((-1000002 : Int32), h1)
  else
    if (f_M_in v1 (0 : Int32) (23 : Int32)) = 0 then
      some ((-1000001 : Int32), h1)
    else
      if (f_M_in v2 (0 : Int32) (1 : Int32)) = 0 then
        some ((-1000001 : Int32), h1)
      else
        Option.bind (gfr h1 v0 [11] 15) fun x10 =>
        Option.bind (ald h1 x10 0 (13 : Int32)) fun x12 =>
        if ((x12 >>> (v1 &&& 31)) &&& (1 : Int32)) = v2 then
          some ((-1000002 : Int32), h1)
        else
          if v2 = (1 : Int32) then
            Option.bind (onc h1 v0 11 (f_M_boatCells F v0 h1)) fun x16 =>
            if ((x16 >>> (v1 &&& 31)) &&& (1 : Int32)) = (1 : Int32) then
              some ((-1000002 : Int32), h1)
            else
              b_M_moor_74 F v0 v1 v2 h1
          else
            b_M_moor_74 F v0 v1 v2 h1
set_option maxHeartbeats 4000000 in
set_option maxRecDepth 200000 in
theorem p_M_moor_96 (F : Nat) {h0 : MH} (v0 : Option Nat) (v1 : Int32) (h : MH) (r : (Int32 × MH)) : b_M_moor_96 F  v0 v1 h = some r → Rt mi_M_moor 4 h0 96 [(0, va_rf v0), (1, .int v1)] [] h (some (.int r.1)) r.2 := by
  intro hyp
  unfold b_M_moor_96 at hyp
  obtain ⟨h1, e2, hyp⟩ := Option.bind_eq_some_iff.mp hyp
  obtain ⟨x3, e4, hyp⟩ := Option.bind_eq_some_iff.mp hyp
  obtain ⟨x5, e6, hyp⟩ := Option.bind_eq_some_iff.mp hyp
  obtain ⟨h7, e8, hyp⟩ := Option.bind_eq_some_iff.mp hyp
  obtain ⟨x9, e10, hyp⟩ := Option.bind_eq_some_iff.mp hyp
  obtain ⟨x11, e12, hyp⟩ := Option.bind_eq_some_iff.mp hyp
  obtain ⟨x13, e14, hyp⟩ := Option.bind_eq_some_iff.mp hyp
  refine rt_st (pc1 := 123) (fun _ _ B => go_aload_n 0 d_M_moor_96 rfl (go_callV0 (q := q_11) (st := []) [] (t_M_notes F v0 h _ (onc_spec e2).2) mm_M_notes (by decide) d_M_moor_97 (onc_spec e2).1 rfl rfl w1197 w1199 w41 rfl (Nat.le_of_ble_eq_true rfl) rfl (go_aload_n 0 d_M_moor_100 rfl (go_gfr d_M_moor_101 fd_11_15 w1004 e4 (go_bipush (v := (13 : Int32)) d_M_moor_104 (by decide) (go_dup2 d_M_moor_106 rfl (mj_rfc _) (go_iald d_M_moor_107 e6 (go_iconst (v := (1 : Int32)) d_M_moor_108 (by decide) (go_iload_n 1 d_M_moor_109 rfl (go_ishl d_M_moor_110 (go_ixor d_M_moor_111 (go_iast d_M_moor_112 e8 (go_aload_n 0 d_M_moor_113 rfl (go_gfr d_M_moor_114 fd_11_15 w1004 e10 (go_bipush (v := (13 : Int32)) d_M_moor_117 (by decide) (go_iald d_M_moor_119 e12 (go_callS1 (st := []) [.int x11] (t_M_ones F x11 h7 _ e14) mm_M_ones (by decide) d_M_moor_120 w1149 w1150 rfl (Nat.le_of_ble_eq_true rfl) rfl B))))))))))))))))) ?_
  exact rt_eqW Value.int hyp (rt_int d_M_moor_123 rfl)
set_option maxHeartbeats 4000000 in
set_option maxRecDepth 200000 in
theorem p_M_moor_74 (F : Nat) {h0 : MH} (v0 : Option Nat) (v1 : Int32) (v2 : Int32) (h : MH) (r : (Int32 × MH)) : b_M_moor_74 F  v0 v1 v2 h = some r → Rt mi_M_moor 4 h0 74 [(0, va_rf v0), (1, .int v1), (2, .int v2)] [] h (some (.int r.1)) r.2 := by
  intro hyp
  unfold b_M_moor_74 at hyp
  refine rt_st (pc1 := 76) (fun _ _ B => go_iload_n 2 d_M_moor_74 rfl (go_iconst (v := (1 : Int32)) d_M_moor_75 (by decide) B)) ?_
  by_cases c1 : v2 = (1 : Int32)
  · replace hyp := (if_pos c1).symm.trans hyp
    obtain ⟨x2, e3, hyp⟩ := Option.bind_eq_some_iff.mp hyp
    obtain ⟨x4, e5, hyp⟩ := Option.bind_eq_some_iff.mp hyp
    obtain ⟨x6, e7, hyp⟩ := Option.bind_eq_some_iff.mp hyp
    refine rt_st (pc1 := 90) (fun _ _ B => go_icmp_ne_f d_M_moor_76 rfl c1 (go_aload_n 0 d_M_moor_79 rfl (go_gfr d_M_moor_80 fd_11_15 w1004 e3 (go_bipush (v := (13 : Int32)) d_M_moor_83 (by decide) (go_iald d_M_moor_85 e5 (go_callS1 (st := []) [.int x4] (t_M_ones F x4 h _ e7) mm_M_ones (by decide) d_M_moor_86 w1149 w1150 rfl (Nat.le_of_ble_eq_true rfl) rfl (go_iconst (v := (4 : Int32)) d_M_moor_89 (by decide) B))))))) ?_
    by_cases c8 : x6 = (4 : Int32)
    · replace hyp := (if_pos c8).symm.trans hyp
      refine rt_st (pc1 := 95) (fun _ _ B => go_icmp_ne_f d_M_moor_90 rfl c8 (go_ldc (v := (-1000003 : Int32)) d_M_moor_93 w1109 B)) ?_
      exact rt_eqW Value.int hyp (rt_int d_M_moor_95 rfl)
    · replace hyp := (if_neg c8).symm.trans hyp
      refine rt_st (pc1 := 96) (fun _ _ B => go_icmp_ne_t 96 d_M_moor_90 rfl c8 B) ?_
      refine rt_sub [0, 1] (lv1 := [(0, va_rf v0), (1, .int v1)]) rfl ?_
      exact p_M_moor_96 F _ _ _ r hyp
  · replace hyp := (if_neg c1).symm.trans hyp
    refine rt_st (pc1 := 96) (fun _ _ B => go_icmp_ne_t 96 d_M_moor_76 rfl c1 B) ?_
    refine rt_sub [0, 1] (lv1 := [(0, va_rf v0), (1, .int v1)]) rfl ?_
    exact p_M_moor_96 F _ _ _ r hyp
set_option maxHeartbeats 4000000 in
set_option maxRecDepth 200000 in
theorem t_M_moor (F : Nat) (v0 : Option Nat) (v1 : Int32) (v2 : Int32) (h : MH) (r : (Int32 × MH)) (hyp : f_M_moor F v0 v1 v2 h = some r) : Mt mi_M_moor 4 [va_rf v0, .int v1, .int v2] h (some (.int r.1)) r.2 := by
  refine Mt.rt (lv := [(0, va_rf v0), (1, .int v1), (2, .int v2)]) (by decide +kernel) (by simp [lv_args, mj_rfc, mj_cti, mj_ctl]) (by simp [mj_rfc, mj_cti, mj_ctl]) ?_
  unfold f_M_moor at hyp
  obtain ⟨h1, e2, hyp⟩ := Option.bind_eq_some_iff.mp hyp
  obtain ⟨x3, e4, hyp⟩ := Option.bind_eq_some_iff.mp hyp
  obtain ⟨x5, e6, hyp⟩ := Option.bind_eq_some_iff.mp hyp
  refine rt_st (pc1 := 11) (fun _ _ B => go_aload_n 0 d_M_moor_0 rfl (go_iconst (v := (0 : Int32)) d_M_moor_1 (by decide) (go_pfi d_M_moor_2 fd_11_0 w989 (fun q => by cases q) e2 (go_aload_n 0 d_M_moor_5 rfl (go_gfr d_M_moor_6 fd_11_15 w1004 e4 (go_iconst (v := (0 : Int32)) d_M_moor_9 (by decide) (go_iald d_M_moor_10 e6 B))))))) ?_
  by_cases c7 : x5 = 0
  · replace hyp := (if_pos c7).symm.trans hyp
    refine rt_st (pc1 := 16) (fun _ _ B => go_if_ne_f d_M_moor_11 rfl c7 (go_ldc (v := (-1000002 : Int32)) d_M_moor_14 w1164 B)) ?_
    exact rt_eqW Value.int hyp (rt_int d_M_moor_16 rfl)
  · replace hyp := (if_neg c7).symm.trans hyp
    refine rt_st (pc1 := 24) (fun _ _ B => go_if_ne_t 17 d_M_moor_11 rfl c7 (go_iload_n 1 d_M_moor_17 rfl (go_iconst (v := (0 : Int32)) d_M_moor_18 (by decide) (go_bipush (v := (23 : Int32)) d_M_moor_19 (by decide) (go_callS1 (st := []) [.int v1, .int (0 : Int32), .int (23 : Int32)] (t_M_in v1 (0 : Int32) (23 : Int32) h1) mm_M_in (by decide) d_M_moor_21 w1073 w1074 rfl (Nat.le_of_ble_eq_true rfl) rfl B))))) ?_
    by_cases c8 : (f_M_in v1 (0 : Int32) (23 : Int32)) = 0
    · replace hyp := (if_pos c8).symm.trans hyp
      refine rt_st (pc1 := 38) (fun _ _ B => go_if_eq_t 36 d_M_moor_24 rfl c8 (go_ldc (v := (-1000001 : Int32)) d_M_moor_36 w1076 B)) ?_
      exact rt_eqW Value.int hyp (rt_int d_M_moor_38 rfl)
    · replace hyp := (if_neg c8).symm.trans hyp
      refine rt_st (pc1 := 33) (fun _ _ B => go_if_eq_f d_M_moor_24 rfl c8 (go_iload_n 2 d_M_moor_27 rfl (go_iconst (v := (0 : Int32)) d_M_moor_28 (by decide) (go_iconst (v := (1 : Int32)) d_M_moor_29 (by decide) (go_callS1 (st := []) [.int v2, .int (0 : Int32), .int (1 : Int32)] (t_M_in v2 (0 : Int32) (1 : Int32) h1) mm_M_in (by decide) d_M_moor_30 w1073 w1074 rfl (Nat.le_of_ble_eq_true rfl) rfl B))))) ?_
      by_cases c9 : (f_M_in v2 (0 : Int32) (1 : Int32)) = 0
      · replace hyp := (if_pos c9).symm.trans hyp
        refine rt_st (pc1 := 38) (fun _ _ B => go_if_ne_f d_M_moor_33 rfl c9 (go_ldc (v := (-1000001 : Int32)) d_M_moor_36 w1076 B)) ?_
        exact rt_eqW Value.int hyp (rt_int d_M_moor_38 rfl)
      · replace hyp := (if_neg c9).symm.trans hyp
        obtain ⟨x10, e11, hyp⟩ := Option.bind_eq_some_iff.mp hyp
        obtain ⟨x12, e13, hyp⟩ := Option.bind_eq_some_iff.mp hyp
        refine rt_st (pc1 := 51) (fun _ _ B => go_if_ne_t 39 d_M_moor_33 rfl c9 (go_aload_n 0 d_M_moor_39 rfl (go_gfr d_M_moor_40 fd_11_15 w1004 e11 (go_bipush (v := (13 : Int32)) d_M_moor_43 (by decide) (go_iald d_M_moor_45 e13 (go_iload_n 1 d_M_moor_46 rfl (go_ishr d_M_moor_47 (go_iconst (v := (1 : Int32)) d_M_moor_48 (by decide) (go_iand d_M_moor_49 (go_iload_n 2 d_M_moor_50 rfl B)))))))))) ?_
        by_cases c14 : ((x12 >>> (v1 &&& 31)) &&& (1 : Int32)) = v2
        · replace hyp := (if_pos c14).symm.trans hyp
          refine rt_st (pc1 := 73) (fun _ _ B => go_icmp_eq_t 71 d_M_moor_51 rfl c14 (go_ldc (v := (-1000002 : Int32)) d_M_moor_71 w1164 B)) ?_
          exact rt_eqW Value.int hyp (rt_int d_M_moor_73 rfl)
        · replace hyp := (if_neg c14).symm.trans hyp
          refine rt_st (pc1 := 56) (fun _ _ B => go_icmp_eq_f d_M_moor_51 rfl c14 (go_iload_n 2 d_M_moor_54 rfl (go_iconst (v := (1 : Int32)) d_M_moor_55 (by decide) B))) ?_
          by_cases c15 : v2 = (1 : Int32)
          · replace hyp := (if_pos c15).symm.trans hyp
            obtain ⟨x16, e17, hyp⟩ := Option.bind_eq_some_iff.mp hyp
            refine rt_st (pc1 := 68) (fun _ _ B => go_icmp_ne_f d_M_moor_56 rfl c15 (go_aload_n 0 d_M_moor_59 rfl (go_callV1 (q := q_11) (st := []) [] (t_M_boatCells F v0 h1 _ (onc_spec e17).2) mm_M_boatCells (by decide) d_M_moor_60 (onc_spec e17).1 rfl rfl w1212 w1214 w42 rfl (Nat.le_of_ble_eq_true rfl) rfl (go_iload_n 1 d_M_moor_63 rfl (go_ishr d_M_moor_64 (go_iconst (v := (1 : Int32)) d_M_moor_65 (by decide) (go_iand d_M_moor_66 (go_iconst (v := (1 : Int32)) d_M_moor_67 (by decide) B)))))))) ?_
            by_cases c18 : ((x16 >>> (v1 &&& 31)) &&& (1 : Int32)) = (1 : Int32)
            · replace hyp := (if_pos c18).symm.trans hyp
              refine rt_st (pc1 := 73) (fun _ _ B => go_icmp_ne_f d_M_moor_68 rfl c18 (go_ldc (v := (-1000002 : Int32)) d_M_moor_71 w1164 B)) ?_
              exact rt_eqW Value.int hyp (rt_int d_M_moor_73 rfl)
            · replace hyp := (if_neg c18).symm.trans hyp
              refine rt_st (pc1 := 74) (fun _ _ B => go_icmp_ne_t 74 d_M_moor_68 rfl c18 B) ?_
              exact p_M_moor_74 F _ _ _ _ r hyp
          · replace hyp := (if_neg c15).symm.trans hyp
            refine rt_st (pc1 := 74) (fun _ _ B => go_icmp_ne_t 74 d_M_moor_56 rfl c15 B) ?_
            exact p_M_moor_74 F _ _ _ _ r hyp
/-! WideTurnModel.silts([I)V -/
def b_M_silts_29 (F : Nat) (k2 : (Option Nat) → Int32 → MH → (Option MH)) : (Option Nat) → (Int32) → (Option Nat) → (Int32) → (Int32) → (Int32) → (MH) → (Option MH) := fun v0 v1 s0 s1 s2 s3 h => 
  Option.bind (ast h s0 0 s1 (s2 - s3)) fun h1 =>
  k2 v0 (v1 + (1 : Int32)) h1
def b_M_silts_2 (F : Nat) : Nat → (Option Nat) → (Int32) → (MH) → (Option MH)
  | 0 => fun _ _ _ => none
  | n + 1 => fun v0 v1 h => 
    if (24 : Int32) ≤ v1 then
      some h
    else
      Option.bind (ald h v0 0 ((18 : Int32) + v1)) fun x2 =>
      Option.bind (ald h v0 0 ((18 : Int32) + v1)) fun x4 =>
      if x4 ≤ 0 then
        b_M_silts_29 F (b_M_silts_2 F n) v0 v1 v0 ((18 : Int32) + v1) x2 (0 : Int32) h
      else
        b_M_silts_29 F (b_M_silts_2 F n) v0 v1 v0 ((18 : Int32) + v1) x2 (1 : Int32) h
def f_M_silts (F : Nat) (v0 : Option Nat) (h : MH) : Option MH :=
  b_M_silts_2 F F v0 (0 : Int32) h
set_option maxHeartbeats 4000000 in
set_option maxRecDepth 200000 in
theorem p_M_silts_29 (F : Nat) {h0 : MH} (k2 : (Option Nat) → Int32 → MH → (Option MH)) (hk2 : ∀ (v0 : Option Nat) (v1 : Int32) (h : MH) (r : MH), k2 v0 v1 h = some r → Rt mi_M_silts 1 h0 2 [(0, va_rf v0), (1, .int v1)] [] h none r) (v0 : Option Nat) (v1 : Int32) (s0 : Option Nat) (s1 : Int32) (s2 : Int32) (s3 : Int32) (h : MH) (r : MH) : b_M_silts_29 F k2  v0 v1 s0 s1 s2 s3 h = some r → Rt mi_M_silts 1 h0 29 [(0, va_rf v0), (1, .int v1)] [.int s3, .int s2, .int s1, va_rf s0] h none r := by
  intro hyp
  unfold b_M_silts_29 at hyp
  obtain ⟨h1, e2, hyp⟩ := Option.bind_eq_some_iff.mp hyp
  refine rt_st (pc1 := 2) (fun _ _ B => go_isub d_M_silts_29 (go_iast d_M_silts_30 e2 (go_iinc (v := (v1 + (1 : Int32))) (lv1 := [(1, .int (v1 + (1 : Int32))), (0, va_rf v0)]) 1 d_M_silts_31 rfl rfl (by decide) (by first | (simp [mj_s1, mj_s2, mj_rfc, mj_cti, mj_ctl]; done) | (simp [mj_s1, mj_s2, mj_rfc, mj_cti, mj_ctl]; decide)) (go_goto 2 d_M_silts_34 rfl B)))) ?_
  refine rt_sub [1, 0] (lv1 := [(0, va_rf v0), (1, .int (v1 + (1 : Int32)))]) rfl ?_
  exact hk2 _ _ _ _ hyp
set_option maxHeartbeats 4000000 in
set_option maxRecDepth 200000 in
theorem p_M_silts_2 (F : Nat) {h0 : MH} : ∀ (n : Nat) (v0 : Option Nat) (v1 : Int32) (h : MH) (r : MH), b_M_silts_2 F  n v0 v1 h = some r → Rt mi_M_silts 1 h0 2 [(0, va_rf v0), (1, .int v1)] [] h none r := by
  intro n
  induction n with
  | zero =>
    intro v0 v1 h r hyp
    cases hyp
  | succ n ih =>
    intro v0 v1 h r hyp
    unfold b_M_silts_2 at hyp
    refine rt_st (pc1 := 5) (fun _ _ B => go_iload_n 1 d_M_silts_2 rfl (go_bipush (v := (24 : Int32)) d_M_silts_3 (by decide) B)) ?_
    by_cases c1 : (24 : Int32) ≤ v1
    · replace hyp := (if_pos c1).symm.trans hyp
      refine rt_st (pc1 := 37) (fun _ _ B => go_icmp_ge_t 37 d_M_silts_5 rfl c1 B) ?_
      exact rt_eq0 hyp (rt_void d_M_silts_37 rfl)
    · replace hyp := (if_neg c1).symm.trans hyp
      obtain ⟨x2, e3, hyp⟩ := Option.bind_eq_some_iff.mp hyp
      obtain ⟨x4, e5, hyp⟩ := Option.bind_eq_some_iff.mp hyp
      refine rt_st (pc1 := 21) (fun _ _ B => go_icmp_ge_f d_M_silts_5 rfl c1 (go_aload_n 0 d_M_silts_8 rfl (go_bipush (v := (18 : Int32)) d_M_silts_9 (by decide) (go_iload_n 1 d_M_silts_11 rfl (go_iadd d_M_silts_12 (go_dup2 d_M_silts_13 rfl (mj_rfc _) (go_iald d_M_silts_14 e3 (go_aload_n 0 d_M_silts_15 rfl (go_bipush (v := (18 : Int32)) d_M_silts_16 (by decide) (go_iload_n 1 d_M_silts_18 rfl (go_iadd d_M_silts_19 (go_iald d_M_silts_20 e5 B)))))))))))) ?_
      by_cases c6 : x4 ≤ 0
      · replace hyp := (if_pos c6).symm.trans hyp
        refine rt_st (pc1 := 29) (fun _ _ B => go_if_le_t 28 d_M_silts_21 rfl c6 (go_iconst (v := (0 : Int32)) d_M_silts_28 (by decide) B)) ?_
        exact p_M_silts_29 F (b_M_silts_2 F n) (fun a0 a1 a2 r hyp => ih a0 a1 a2 r hyp) _ _ _ _ _ _ _ r hyp
      · replace hyp := (if_neg c6).symm.trans hyp
        refine rt_st (pc1 := 29) (fun _ _ B => go_if_le_f d_M_silts_21 rfl c6 (go_iconst (v := (1 : Int32)) d_M_silts_24 (by decide) (go_goto 29 d_M_silts_25 rfl B))) ?_
        exact p_M_silts_29 F (b_M_silts_2 F n) (fun a0 a1 a2 r hyp => ih a0 a1 a2 r hyp) _ _ _ _ _ _ _ r hyp
set_option maxHeartbeats 4000000 in
set_option maxRecDepth 200000 in
theorem t_M_silts (F : Nat) (v0 : Option Nat) (h : MH) (r : MH) (hyp : f_M_silts F v0 h = some r) : Mt mi_M_silts 1 [va_rf v0] h none r := by
  refine Mt.rt (lv := [(0, va_rf v0)]) (by decide +kernel) (by simp [lv_args, mj_rfc, mj_cti, mj_ctl]) (by simp [mj_rfc, mj_cti, mj_ctl]) ?_
  unfold f_M_silts at hyp
  refine rt_st (pc1 := 2) (fun _ _ B => go_iconst (v := (0 : Int32)) d_M_silts_0 (by decide) (go_istore_n (lv1 := [(1, .int (0 : Int32)), (0, va_rf v0)]) d_M_silts_1 (by decide) (by first | (simp [mj_s1, mj_s2, mj_rfc, mj_cti, mj_ctl]; done) | (simp [mj_s1, mj_s2, mj_rfc, mj_cti, mj_ctl]; decide)) B)) ?_
  refine rt_sub [1, 0] (lv1 := [(0, va_rf v0), (1, .int (0 : Int32))]) rfl ?_
  exact p_M_silts_2 F F _ _ _ r hyp
/-! WideTurnModel.silt()I -/
def f_M_silt (F : Nat) (v0 : Option Nat) (h : MH) : Option (Int32 × MH) :=
  Option.bind (pfv h v0 [11] 0 (.int (0 : Int32))) fun h1 =>
  Option.bind (gfr h1 v0 [11] 15) fun x3 =>
  Option.bind (ald h1 x3 0 (0 : Int32)) fun x5 =>
  if x5 = 0 then
    some ((-1000002 : Int32), h1)
  else
    Option.bind (onc h1 v0 11 (f_M_notes F v0 h1)) fun h8 =>
    Option.bind (gfr h8 v0 [11] 15) fun x10 =>
    Option.bind (f_M_silts F x10 h8) fun h12 =>
    Option.bind (onc h12 v0 11 (f_M_fitsNow v0 h12)) fun x14 =>
    if x14 = 0 then
      some ((0 : Int32), h12)
    else
      some ((1 : Int32), h12)
set_option maxHeartbeats 4000000 in
set_option maxRecDepth 200000 in
theorem t_M_silt (F : Nat) (v0 : Option Nat) (h : MH) (r : (Int32 × MH)) (hyp : f_M_silt F v0 h = some r) : Mt mi_M_silt 6 [va_rf v0] h (some (.int r.1)) r.2 := by
  refine Mt.rt (lv := [(0, va_rf v0)]) (by decide +kernel) (by simp [lv_args, mj_rfc, mj_cti, mj_ctl]) (by simp [mj_rfc, mj_cti, mj_ctl]) ?_
  unfold f_M_silt at hyp
  obtain ⟨h1, e2, hyp⟩ := Option.bind_eq_some_iff.mp hyp
  obtain ⟨x3, e4, hyp⟩ := Option.bind_eq_some_iff.mp hyp
  obtain ⟨x5, e6, hyp⟩ := Option.bind_eq_some_iff.mp hyp
  refine rt_st (pc1 := 11) (fun _ _ B => go_aload_n 0 d_M_silt_0 rfl (go_iconst (v := (0 : Int32)) d_M_silt_1 (by decide) (go_pfi d_M_silt_2 fd_11_0 w989 (fun q => by cases q) e2 (go_aload_n 0 d_M_silt_5 rfl (go_gfr d_M_silt_6 fd_11_15 w1004 e4 (go_iconst (v := (0 : Int32)) d_M_silt_9 (by decide) (go_iald d_M_silt_10 e6 B))))))) ?_
  by_cases c7 : x5 = 0
  · replace hyp := (if_pos c7).symm.trans hyp
    refine rt_st (pc1 := 16) (fun _ _ B => go_if_ne_f d_M_silt_11 rfl c7 (go_ldc (v := (-1000002 : Int32)) d_M_silt_14 w1164 B)) ?_
    exact rt_eqW Value.int hyp (rt_int d_M_silt_16 rfl)
  · replace hyp := (if_neg c7).symm.trans hyp
    obtain ⟨h8, e9, hyp⟩ := Option.bind_eq_some_iff.mp hyp
    obtain ⟨x10, e11, hyp⟩ := Option.bind_eq_some_iff.mp hyp
    obtain ⟨h12, e13, hyp⟩ := Option.bind_eq_some_iff.mp hyp
    obtain ⟨x14, e15, hyp⟩ := Option.bind_eq_some_iff.mp hyp
    refine rt_st (pc1 := 32) (fun _ _ B => go_if_ne_t 17 d_M_silt_11 rfl c7 (go_aload_n 0 d_M_silt_17 rfl (go_callV0 (q := q_11) (st := []) [] (t_M_notes F v0 h1 _ (onc_spec e9).2) mm_M_notes (by decide) d_M_silt_18 (onc_spec e9).1 rfl rfl w1197 w1199 w41 rfl (Nat.le_of_ble_eq_true rfl) rfl (go_aload_n 0 d_M_silt_21 rfl (go_gfr d_M_silt_22 fd_11_15 w1004 e11 (go_callS0 (st := []) [va_rf x10] (t_M_silts F x10 h8 _ e13) mm_M_silts (by decide) d_M_silt_25 w1220 w1221 rfl (Nat.le_of_ble_eq_true rfl) rfl (go_aload_n 0 d_M_silt_28 rfl (go_callV1 (q := q_11) (st := []) [] (t_M_fitsNow v0 h12 _ (onc_spec e15).2) mm_M_fitsNow (by decide) d_M_silt_29 (onc_spec e15).1 rfl rfl w1223 w1225 w43 rfl (Nat.le_of_ble_eq_true rfl) rfl B)))))))) ?_
    by_cases c16 : x14 = 0
    · replace hyp := (if_pos c16).symm.trans hyp
      refine rt_st (pc1 := 40) (fun _ _ B => go_if_eq_t 39 d_M_silt_32 rfl c16 (go_iconst (v := (0 : Int32)) d_M_silt_39 (by decide) B)) ?_
      exact rt_eqW Value.int hyp (rt_int d_M_silt_40 rfl)
    · replace hyp := (if_neg c16).symm.trans hyp
      refine rt_st (pc1 := 40) (fun _ _ B => go_if_eq_f d_M_silt_32 rfl c16 (go_iconst (v := (1 : Int32)) d_M_silt_35 (by decide) (go_goto 40 d_M_silt_36 rfl B))) ?_
      exact rt_eqW Value.int hyp (rt_int d_M_silt_40 rfl)
/-! WideTurnModel.boat(I)I -/
def f_M_boat (F : Nat) (v0 : Option Nat) (v1 : Int32) (h : MH) : Option (Int32 × MH) :=
  Option.bind (pfv h v0 [11] 0 (.int (0 : Int32))) fun h1 =>
  Option.bind (gfr h1 v0 [11] 15) fun x3 =>
  Option.bind (ald h1 x3 0 (0 : Int32)) fun x5 =>
  if x5 = 0 then
    some ((-1000002 : Int32), h1)
  else
    if (f_M_in v1 (0 : Int32) (5 : Int32)) = 0 then
      some ((-1000001 : Int32), h1)
    else
      if (2 : Int32) ≤ v1 then
        if v1 = (2 : Int32) then
          Option.bind (gfr h1 v0 [11] 15) fun x11 =>
          Option.bind (f_M_draughtOf x11 (0 : Int32) h1) fun x13 =>
          some (x13, h1)
        else
          if v1 = (3 : Int32) then
            Option.bind (gfr h1 v0 [11] 15) fun x16 =>
            Option.bind (ald h1 x16 0 (17 : Int32)) fun x18 =>
            some (x18, h1)
          else
            if v1 = (4 : Int32) then
              Option.bind (onc h1 v0 11 (f_M_fitsNow v0 h1)) fun x21 =>
              if x21 = 0 then
                some ((0 : Int32), h1)
              else
                some ((1 : Int32), h1)
            else
              Option.bind (onc h1 v0 11 (f_M_boatCells F v0 h1)) fun x24 =>
              some (x24, h1)
      else
        Option.bind (gfr h1 v0 [11] 15) fun x26 =>
        Option.bind (ald h1 x26 0 ((14 : Int32) + v1)) fun x28 =>
        some (x28, h1)
set_option maxHeartbeats 4000000 in
set_option maxRecDepth 200000 in
theorem t_M_boat (F : Nat) (v0 : Option Nat) (v1 : Int32) (h : MH) (r : (Int32 × MH)) (hyp : f_M_boat F v0 v1 h = some r) : Mt mi_M_boat 6 [va_rf v0, .int v1] h (some (.int r.1)) r.2 := by
  refine Mt.rt (lv := [(0, va_rf v0), (1, .int v1)]) (by decide +kernel) (by simp [lv_args, mj_rfc, mj_cti, mj_ctl]) (by simp [mj_rfc, mj_cti, mj_ctl]) ?_
  unfold f_M_boat at hyp
  obtain ⟨h1, e2, hyp⟩ := Option.bind_eq_some_iff.mp hyp
  obtain ⟨x3, e4, hyp⟩ := Option.bind_eq_some_iff.mp hyp
  obtain ⟨x5, e6, hyp⟩ := Option.bind_eq_some_iff.mp hyp
  refine rt_st (pc1 := 11) (fun _ _ B => go_aload_n 0 d_M_boat_0 rfl (go_iconst (v := (0 : Int32)) d_M_boat_1 (by decide) (go_pfi d_M_boat_2 fd_11_0 w989 (fun q => by cases q) e2 (go_aload_n 0 d_M_boat_5 rfl (go_gfr d_M_boat_6 fd_11_15 w1004 e4 (go_iconst (v := (0 : Int32)) d_M_boat_9 (by decide) (go_iald d_M_boat_10 e6 B))))))) ?_
  by_cases c7 : x5 = 0
  · replace hyp := (if_pos c7).symm.trans hyp
    refine rt_st (pc1 := 16) (fun _ _ B => go_if_ne_f d_M_boat_11 rfl c7 (go_ldc (v := (-1000002 : Int32)) d_M_boat_14 w1164 B)) ?_
    exact rt_eqW Value.int hyp (rt_int d_M_boat_16 rfl)
  · replace hyp := (if_neg c7).symm.trans hyp
    refine rt_st (pc1 := 23) (fun _ _ B => go_if_ne_t 17 d_M_boat_11 rfl c7 (go_iload_n 1 d_M_boat_17 rfl (go_iconst (v := (0 : Int32)) d_M_boat_18 (by decide) (go_iconst (v := (5 : Int32)) d_M_boat_19 (by decide) (go_callS1 (st := []) [.int v1, .int (0 : Int32), .int (5 : Int32)] (t_M_in v1 (0 : Int32) (5 : Int32) h1) mm_M_in (by decide) d_M_boat_20 w1073 w1074 rfl (Nat.le_of_ble_eq_true rfl) rfl B))))) ?_
    by_cases c8 : (f_M_in v1 (0 : Int32) (5 : Int32)) = 0
    · replace hyp := (if_pos c8).symm.trans hyp
      refine rt_st (pc1 := 28) (fun _ _ B => go_if_ne_f d_M_boat_23 rfl c8 (go_ldc (v := (-1000001 : Int32)) d_M_boat_26 w1076 B)) ?_
      exact rt_eqW Value.int hyp (rt_int d_M_boat_28 rfl)
    · replace hyp := (if_neg c8).symm.trans hyp
      refine rt_st (pc1 := 31) (fun _ _ B => go_if_ne_t 29 d_M_boat_23 rfl c8 (go_iload_n 1 d_M_boat_29 rfl (go_iconst (v := (2 : Int32)) d_M_boat_30 (by decide) B))) ?_
      by_cases c9 : (2 : Int32) ≤ v1
      · replace hyp := (if_pos c9).symm.trans hyp
        refine rt_st (pc1 := 46) (fun _ _ B => go_icmp_ge_t 44 d_M_boat_31 rfl c9 (go_iload_n 1 d_M_boat_44 rfl (go_iconst (v := (2 : Int32)) d_M_boat_45 (by decide) B))) ?_
        by_cases c10 : v1 = (2 : Int32)
        · replace hyp := (if_pos c10).symm.trans hyp
          obtain ⟨x11, e12, hyp⟩ := Option.bind_eq_some_iff.mp hyp
          obtain ⟨x13, e14, hyp⟩ := Option.bind_eq_some_iff.mp hyp
          refine rt_st (pc1 := 99) (fun _ _ B => go_icmp_ne_f d_M_boat_46 rfl c10 (go_aload_n 0 d_M_boat_49 rfl (go_gfr d_M_boat_50 fd_11_15 w1004 e12 (go_iconst (v := (0 : Int32)) d_M_boat_53 (by decide) (go_callS1 (st := []) [va_rf x11, .int (0 : Int32)] (t_M_draughtOf x11 (0 : Int32) h1 _ e14) mm_M_draughtOf (by decide) d_M_boat_54 w1182 w1183 rfl (Nat.le_of_ble_eq_true rfl) rfl (go_goto 99 d_M_boat_57 rfl B)))))) ?_
          exact rt_eqW Value.int hyp (rt_int d_M_boat_99 rfl)
        · replace hyp := (if_neg c10).symm.trans hyp
          refine rt_st (pc1 := 62) (fun _ _ B => go_icmp_ne_t 60 d_M_boat_46 rfl c10 (go_iload_n 1 d_M_boat_60 rfl (go_iconst (v := (3 : Int32)) d_M_boat_61 (by decide) B))) ?_
          by_cases c15 : v1 = (3 : Int32)
          · replace hyp := (if_pos c15).symm.trans hyp
            obtain ⟨x16, e17, hyp⟩ := Option.bind_eq_some_iff.mp hyp
            obtain ⟨x18, e19, hyp⟩ := Option.bind_eq_some_iff.mp hyp
            refine rt_st (pc1 := 99) (fun _ _ B => go_icmp_ne_f d_M_boat_62 rfl c15 (go_aload_n 0 d_M_boat_65 rfl (go_gfr d_M_boat_66 fd_11_15 w1004 e17 (go_bipush (v := (17 : Int32)) d_M_boat_69 (by decide) (go_iald d_M_boat_71 e19 (go_goto 99 d_M_boat_72 rfl B)))))) ?_
            exact rt_eqW Value.int hyp (rt_int d_M_boat_99 rfl)
          · replace hyp := (if_neg c15).symm.trans hyp
            refine rt_st (pc1 := 77) (fun _ _ B => go_icmp_ne_t 75 d_M_boat_62 rfl c15 (go_iload_n 1 d_M_boat_75 rfl (go_iconst (v := (4 : Int32)) d_M_boat_76 (by decide) B))) ?_
            by_cases c20 : v1 = (4 : Int32)
            · replace hyp := (if_pos c20).symm.trans hyp
              obtain ⟨x21, e22, hyp⟩ := Option.bind_eq_some_iff.mp hyp
              refine rt_st (pc1 := 84) (fun _ _ B => go_icmp_ne_f d_M_boat_77 rfl c20 (go_aload_n 0 d_M_boat_80 rfl (go_callV1 (q := q_11) (st := []) [] (t_M_fitsNow v0 h1 _ (onc_spec e22).2) mm_M_fitsNow (by decide) d_M_boat_81 (onc_spec e22).1 rfl rfl w1223 w1225 w43 rfl (Nat.le_of_ble_eq_true rfl) rfl B))) ?_
              by_cases c23 : x21 = 0
              · replace hyp := (if_pos c23).symm.trans hyp
                refine rt_st (pc1 := 99) (fun _ _ B => go_if_eq_t 91 d_M_boat_84 rfl c23 (go_iconst (v := (0 : Int32)) d_M_boat_91 (by decide) (go_goto 99 d_M_boat_92 rfl B))) ?_
                exact rt_eqW Value.int hyp (rt_int d_M_boat_99 rfl)
              · replace hyp := (if_neg c23).symm.trans hyp
                refine rt_st (pc1 := 99) (fun _ _ B => go_if_eq_f d_M_boat_84 rfl c23 (go_iconst (v := (1 : Int32)) d_M_boat_87 (by decide) (go_goto 99 d_M_boat_88 rfl B))) ?_
                exact rt_eqW Value.int hyp (rt_int d_M_boat_99 rfl)
            · replace hyp := (if_neg c20).symm.trans hyp
              obtain ⟨x24, e25, hyp⟩ := Option.bind_eq_some_iff.mp hyp
              refine rt_st (pc1 := 99) (fun _ _ B => go_icmp_ne_t 95 d_M_boat_77 rfl c20 (go_aload_n 0 d_M_boat_95 rfl (go_callV1 (q := q_11) (st := []) [] (t_M_boatCells F v0 h1 _ (onc_spec e25).2) mm_M_boatCells (by decide) d_M_boat_96 (onc_spec e25).1 rfl rfl w1212 w1214 w42 rfl (Nat.le_of_ble_eq_true rfl) rfl B))) ?_
              exact rt_eqW Value.int hyp (rt_int d_M_boat_99 rfl)
      · replace hyp := (if_neg c9).symm.trans hyp
        obtain ⟨x26, e27, hyp⟩ := Option.bind_eq_some_iff.mp hyp
        obtain ⟨x28, e29, hyp⟩ := Option.bind_eq_some_iff.mp hyp
        refine rt_st (pc1 := 43) (fun _ _ B => go_icmp_ge_f d_M_boat_31 rfl c9 (go_aload_n 0 d_M_boat_34 rfl (go_gfr d_M_boat_35 fd_11_15 w1004 e27 (go_bipush (v := (14 : Int32)) d_M_boat_38 (by decide) (go_iload_n 1 d_M_boat_40 rfl (go_iadd d_M_boat_41 (go_iald d_M_boat_42 e29 B))))))) ?_
        exact rt_eqW Value.int hyp (rt_int d_M_boat_43 rfl)
/-! WideTurnModel.cell(II)I -/
def f_M_cell (v0 : Option Nat) (v1 : Int32) (v2 : Int32) (h : MH) : Option (Int32 × MH) :=
  Option.bind (pfv h v0 [11] 0 (.int (0 : Int32))) fun h1 =>
  Option.bind (gfr h1 v0 [11] 15) fun x3 =>
  Option.bind (ald h1 x3 0 (0 : Int32)) fun x5 =>
  if x5 = 0 then
    some ((-1000002 : Int32), h1)
  else
    if (f_M_in v1 (0 : Int32) (23 : Int32)) = 0 then
      some ((-1000001 : Int32), h1)
    else
      if (f_M_in v2 (0 : Int32) (1 : Int32)) = 0 then
        some ((-1000001 : Int32), h1)
      else
        if v2 = 0 then
          Option.bind (gfr h1 v0 [11] 15) fun x11 =>
          Option.bind (ald h1 x11 0 ((18 : Int32) + v1)) fun x13 =>
          some (x13, h1)
        else
          Option.bind (gfr h1 v0 [11] 15) fun x15 =>
          Option.bind (ald h1 x15 0 (13 : Int32)) fun x17 =>
          some (((x17 >>> (v1 &&& 31)) &&& (1 : Int32)), h1)
set_option maxHeartbeats 4000000 in
set_option maxRecDepth 200000 in
theorem t_M_cell (v0 : Option Nat) (v1 : Int32) (v2 : Int32) (h : MH) (r : (Int32 × MH)) (hyp : f_M_cell v0 v1 v2 h = some r) : Mt mi_M_cell 2 [va_rf v0, .int v1, .int v2] h (some (.int r.1)) r.2 := by
  refine Mt.rt (lv := [(0, va_rf v0), (1, .int v1), (2, .int v2)]) (by decide +kernel) (by simp [lv_args, mj_rfc, mj_cti, mj_ctl]) (by simp [mj_rfc, mj_cti, mj_ctl]) ?_
  unfold f_M_cell at hyp
  obtain ⟨h1, e2, hyp⟩ := Option.bind_eq_some_iff.mp hyp
  obtain ⟨x3, e4, hyp⟩ := Option.bind_eq_some_iff.mp hyp
  obtain ⟨x5, e6, hyp⟩ := Option.bind_eq_some_iff.mp hyp
  refine rt_st (pc1 := 11) (fun _ _ B => go_aload_n 0 d_M_cell_0 rfl (go_iconst (v := (0 : Int32)) d_M_cell_1 (by decide) (go_pfi d_M_cell_2 fd_11_0 w989 (fun q => by cases q) e2 (go_aload_n 0 d_M_cell_5 rfl (go_gfr d_M_cell_6 fd_11_15 w1004 e4 (go_iconst (v := (0 : Int32)) d_M_cell_9 (by decide) (go_iald d_M_cell_10 e6 B))))))) ?_
  by_cases c7 : x5 = 0
  · replace hyp := (if_pos c7).symm.trans hyp
    refine rt_st (pc1 := 16) (fun _ _ B => go_if_ne_f d_M_cell_11 rfl c7 (go_ldc (v := (-1000002 : Int32)) d_M_cell_14 w1164 B)) ?_
    exact rt_eqW Value.int hyp (rt_int d_M_cell_16 rfl)
  · replace hyp := (if_neg c7).symm.trans hyp
    refine rt_st (pc1 := 24) (fun _ _ B => go_if_ne_t 17 d_M_cell_11 rfl c7 (go_iload_n 1 d_M_cell_17 rfl (go_iconst (v := (0 : Int32)) d_M_cell_18 (by decide) (go_bipush (v := (23 : Int32)) d_M_cell_19 (by decide) (go_callS1 (st := []) [.int v1, .int (0 : Int32), .int (23 : Int32)] (t_M_in v1 (0 : Int32) (23 : Int32) h1) mm_M_in (by decide) d_M_cell_21 w1073 w1074 rfl (Nat.le_of_ble_eq_true rfl) rfl B))))) ?_
    by_cases c8 : (f_M_in v1 (0 : Int32) (23 : Int32)) = 0
    · replace hyp := (if_pos c8).symm.trans hyp
      refine rt_st (pc1 := 38) (fun _ _ B => go_if_eq_t 36 d_M_cell_24 rfl c8 (go_ldc (v := (-1000001 : Int32)) d_M_cell_36 w1076 B)) ?_
      exact rt_eqW Value.int hyp (rt_int d_M_cell_38 rfl)
    · replace hyp := (if_neg c8).symm.trans hyp
      refine rt_st (pc1 := 33) (fun _ _ B => go_if_eq_f d_M_cell_24 rfl c8 (go_iload_n 2 d_M_cell_27 rfl (go_iconst (v := (0 : Int32)) d_M_cell_28 (by decide) (go_iconst (v := (1 : Int32)) d_M_cell_29 (by decide) (go_callS1 (st := []) [.int v2, .int (0 : Int32), .int (1 : Int32)] (t_M_in v2 (0 : Int32) (1 : Int32) h1) mm_M_in (by decide) d_M_cell_30 w1073 w1074 rfl (Nat.le_of_ble_eq_true rfl) rfl B))))) ?_
      by_cases c9 : (f_M_in v2 (0 : Int32) (1 : Int32)) = 0
      · replace hyp := (if_pos c9).symm.trans hyp
        refine rt_st (pc1 := 38) (fun _ _ B => go_if_ne_f d_M_cell_33 rfl c9 (go_ldc (v := (-1000001 : Int32)) d_M_cell_36 w1076 B)) ?_
        exact rt_eqW Value.int hyp (rt_int d_M_cell_38 rfl)
      · replace hyp := (if_neg c9).symm.trans hyp
        refine rt_st (pc1 := 40) (fun _ _ B => go_if_ne_t 39 d_M_cell_33 rfl c9 (go_iload_n 2 d_M_cell_39 rfl B)) ?_
        by_cases c10 : v2 = 0
        · replace hyp := (if_pos c10).symm.trans hyp
          obtain ⟨x11, e12, hyp⟩ := Option.bind_eq_some_iff.mp hyp
          obtain ⟨x13, e14, hyp⟩ := Option.bind_eq_some_iff.mp hyp
          refine rt_st (pc1 := 66) (fun _ _ B => go_if_ne_f d_M_cell_40 rfl c10 (go_aload_n 0 d_M_cell_43 rfl (go_gfr d_M_cell_44 fd_11_15 w1004 e12 (go_bipush (v := (18 : Int32)) d_M_cell_47 (by decide) (go_iload_n 1 d_M_cell_49 rfl (go_iadd d_M_cell_50 (go_iald d_M_cell_51 e14 (go_goto 66 d_M_cell_52 rfl B)))))))) ?_
          exact rt_eqW Value.int hyp (rt_int d_M_cell_66 rfl)
        · replace hyp := (if_neg c10).symm.trans hyp
          obtain ⟨x15, e16, hyp⟩ := Option.bind_eq_some_iff.mp hyp
          obtain ⟨x17, e18, hyp⟩ := Option.bind_eq_some_iff.mp hyp
          refine rt_st (pc1 := 66) (fun _ _ B => go_if_ne_t 55 d_M_cell_40 rfl c10 (go_aload_n 0 d_M_cell_55 rfl (go_gfr d_M_cell_56 fd_11_15 w1004 e16 (go_bipush (v := (13 : Int32)) d_M_cell_59 (by decide) (go_iald d_M_cell_61 e18 (go_iload_n 1 d_M_cell_62 rfl (go_ishr d_M_cell_63 (go_iconst (v := (1 : Int32)) d_M_cell_64 (by decide) (go_iand d_M_cell_65 B))))))))) ?_
          exact rt_eqW Value.int hyp (rt_int d_M_cell_66 rfl)
