/-! the constructors, by program -/
def out_X8 (d : cn_G) (q : Nat) (ad : Nat → Nat) : va_W := [(q, .inr (8, [.ref (ad 0), .int (Int32.ofInt 0)])), (ad 0, cn_ar d false 200)]
set_option maxRecDepth 100000 in
set_option maxHeartbeats 4000000 in
theorem ct_X8 (l : Launch) (d : cn_G) : cn_Met l d yX8_init cX8_init 1 1 200 8 out_X8 := by
  refine cn_begin (own := RX8) (io := 3) (pl := 68) (p2 := 61) (p3 := 62) (by decide +kernel) ?_
  intro p e s m args below meth c L h0 hC hin hr hlk hl hP hD hS
  refine cn_arr 4 3 8 0 9 69 false 200 78 hC hin hl (by decide +kernel) hP hD hS (Nat.le_of_ble_eq_true rfl) (Nat.le_of_ble_eq_true rfl) (Nat.le_of_ble_eq_true rfl) (fun q0 H locs hP hD hS => ?_)
  refine cn_int 13 8 1 15 70 (0) hC hin hl (by decide +kernel) hP hD hS (Nat.le_of_ble_eq_true rfl) (fun H locs hP hD hS => ?_)
  exact cn_ret 18 hC.1.1 hC.1.2.1 hr hlk (by decide +kernel) (fun j => ([q0] : List Nat).getD j 0) hP hD hS (Nat.le_of_ble_eq_true rfl) (Nat.le_of_ble_eq_true rfl)
def out_X4 (d : cn_G) (q : Nat) (ad : Nat → Nat) : va_W := [(q, .inr (4, [.int (Int32.ofInt 0), .int (Int32.ofInt 0), .int (Int32.ofInt 0), .int (Int32.ofInt 0), .int (Int32.ofInt 0), .int (Int32.ofInt 0), .ref (ad 0), .ref (ad 1), .ref (ad 2), .ref (ad 3), .ref (ad 4), .ref (ad 5)])), (ad 0, cn_ar d false 4), (ad 1, cn_ar d false 4), (ad 2, cn_ar d false 4), (ad 3, cn_ar d false 6), (ad 4, cn_ar d false 6), (ad 5, cn_ar d false 6)]
set_option maxRecDepth 100000 in
set_option maxHeartbeats 4000000 in
theorem ct_X4 (l : Launch) (d : cn_G) : cn_Met l d yX4_init cX4_init 1 6 30 4 out_X4 := by
  refine cn_begin (own := RX4) (io := 3) (pl := 90) (p2 := 61) (p3 := 62) (by decide +kernel) ?_
  intro p e s m args below meth c L h0 hC hin hr hlk hl hP hD hS
  refine cn_int 4 4 0 9 91 (0) hC hin hl (by decide +kernel) hP hD hS (Nat.le_of_ble_eq_true rfl) (fun H locs hP hD hS => ?_)
  refine cn_int 9 4 1 15 94 (0) hC hin hl (by decide +kernel) hP hD hS (Nat.le_of_ble_eq_true rfl) (fun H locs hP hD hS => ?_)
  refine cn_int 14 4 2 19 96 (0) hC hin hl (by decide +kernel) hP hD hS (Nat.le_of_ble_eq_true rfl) (fun H locs hP hD hS => ?_)
  refine cn_int 19 4 3 22 100 (0) hC hin hl (by decide +kernel) hP hD hS (Nat.le_of_ble_eq_true rfl) (fun H locs hP hD hS => ?_)
  refine cn_int 24 4 4 25 103 (0) hC hin hl (by decide +kernel) hP hD hS (Nat.le_of_ble_eq_true rfl) (fun H locs hP hD hS => ?_)
  refine cn_int 29 4 5 28 107 (0) hC hin hl (by decide +kernel) hP hD hS (Nat.le_of_ble_eq_true rfl) (fun H locs hP hD hS => ?_)
  refine cn_arr 34 1 4 6 31 111 false 4 78 hC hin hl (by decide +kernel) hP hD hS (Nat.le_of_ble_eq_true rfl) (Nat.le_of_ble_eq_true rfl) (Nat.le_of_ble_eq_true rfl) (fun q6 H locs hP hD hS => ?_)
  refine cn_arr 41 1 4 7 35 113 false 4 78 hC hin hl (by decide +kernel) hP hD hS (Nat.le_of_ble_eq_true rfl) (Nat.le_of_ble_eq_true rfl) (Nat.le_of_ble_eq_true rfl) (fun q7 H locs hP hD hS => ?_)
  refine cn_arr 48 1 4 8 38 116 false 4 78 hC hin hl (by decide +kernel) hP hD hS (Nat.le_of_ble_eq_true rfl) (Nat.le_of_ble_eq_true rfl) (Nat.le_of_ble_eq_true rfl) (fun q8 H locs hP hD hS => ?_)
  refine cn_arr 55 2 4 9 41 119 false 6 78 hC hin hl (by decide +kernel) hP hD hS (Nat.le_of_ble_eq_true rfl) (Nat.le_of_ble_eq_true rfl) (Nat.le_of_ble_eq_true rfl) (fun q9 H locs hP hD hS => ?_)
  refine cn_arr 63 2 4 10 44 122 false 6 78 hC hin hl (by decide +kernel) hP hD hS (Nat.le_of_ble_eq_true rfl) (Nat.le_of_ble_eq_true rfl) (Nat.le_of_ble_eq_true rfl) (fun q10 H locs hP hD hS => ?_)
  refine cn_arr 71 2 4 11 47 126 false 6 78 hC hin hl (by decide +kernel) hP hD hS (Nat.le_of_ble_eq_true rfl) (Nat.le_of_ble_eq_true rfl) (Nat.le_of_ble_eq_true rfl) (fun q11 H locs hP hD hS => ?_)
  exact cn_ret 79 hC.1.1 hC.1.2.1 hr hlk (by decide +kernel) (fun j => ([q6, q7, q8, q9, q10, q11] : List Nat).getD j 0) hP hD hS (Nat.le_of_ble_eq_true rfl) (Nat.le_of_ble_eq_true rfl)
def out_X5 (d : cn_G) (q : Nat) (ad : Nat → Nat) : va_W := [(q, .inr (5, [.ref (ad 0), .ref (ad 7), .int (Int32.ofInt 0), .int (Int32.ofInt (-1))])), (ad 0, .inr (4, [.int (Int32.ofInt 0), .int (Int32.ofInt 0), .int (Int32.ofInt 0), .int (Int32.ofInt 0), .int (Int32.ofInt 0), .int (Int32.ofInt 0), .ref (ad 1), .ref (ad 2), .ref (ad 3), .ref (ad 4), .ref (ad 5), .ref (ad 6)])), (ad 1, cn_ar d false 4), (ad 2, cn_ar d false 4), (ad 3, cn_ar d false 4), (ad 4, cn_ar d false 6), (ad 5, cn_ar d false 6), (ad 6, cn_ar d false 6), (ad 7, cn_ar d false 3)]
set_option maxRecDepth 100000 in
set_option maxHeartbeats 4000000 in
theorem ct_X5 (l : Launch) (d : cn_G) : cn_Met l d yX5_init cX5_init 2 8 45 5 out_X5 := by
  refine cn_begin (own := RX5) (io := 3) (pl := 84) (p2 := 61) (p3 := 62) (by decide +kernel) ?_
  intro p e s m args below meth c L h0 hC hin hr hlk hl hP hD hS
  refine cn_obj 4 5 0 12 155 4 12 9 11 85 86 45 88 89 87 hC hin hl (ct_X4 l d) (by decide +kernel) (by decide +kernel) hP hD hS (Nat.le_of_ble_eq_true rfl) (Nat.le_of_ble_eq_true rfl) (Nat.le_of_ble_eq_true rfl) (Nat.le_of_ble_eq_true rfl) (Nat.le_of_ble_eq_true rfl) (fun q0 a0 H locs hP hD hS => ?_)
  refine cn_arr 15 1 5 1 18 157 false 3 78 hC hin hl (by decide +kernel) hP hD hS (Nat.le_of_ble_eq_true rfl) (Nat.le_of_ble_eq_true rfl) (Nat.le_of_ble_eq_true rfl) (fun q1 H locs hP hD hS => ?_)
  refine cn_int 22 5 2 22 158 (0) hC hin hl (by decide +kernel) hP hD hS (Nat.le_of_ble_eq_true rfl) (fun H locs hP hD hS => ?_)
  refine cn_int 27 5 3 26 160 (-1) hC hin hl (by decide +kernel) hP hD hS (Nat.le_of_ble_eq_true rfl) (fun H locs hP hD hS => ?_)
  exact cn_ret 32 hC.1.1 hC.1.2.1 hr hlk (by decide +kernel) (fun j => ([q0, a0 0, a0 1, a0 2, a0 3, a0 4, a0 5, q1] : List Nat).getD j 0) hP hD hS (Nat.le_of_ble_eq_true rfl) (Nat.le_of_ble_eq_true rfl)
def out_X3 (d : cn_G) (q : Nat) (ad : Nat → Nat) : va_W := [(q, .inr (3, [.int (Int32.ofInt 0), .int (Int32.ofInt 0), .int (Int32.ofInt 0), .int (Int32.ofInt 0), .int (Int32.ofInt 0), .ref (ad 0), .ref (ad 1), .ref (ad 2)])), (ad 0, cn_ar d false 4), (ad 1, cn_ar d false 4), (ad 2, cn_ar d false 4)]
set_option maxRecDepth 100000 in
set_option maxHeartbeats 4000000 in
theorem ct_X3 (l : Launch) (d : cn_G) : cn_Met l d yX3_init cX3_init 1 3 12 3 out_X3 := by
  refine cn_begin (own := RX3) (io := 3) (pl := 178) (p2 := 61) (p3 := 62) (by decide +kernel) ?_
  intro p e s m args below meth c L h0 hC hin hr hlk hl hP hD hS
  refine cn_int 4 3 0 9 179 (0) hC hin hl (by decide +kernel) hP hD hS (Nat.le_of_ble_eq_true rfl) (fun H locs hP hD hS => ?_)
  refine cn_int 9 3 1 15 182 (0) hC hin hl (by decide +kernel) hP hD hS (Nat.le_of_ble_eq_true rfl) (fun H locs hP hD hS => ?_)
  refine cn_int 14 3 2 18 184 (0) hC hin hl (by decide +kernel) hP hD hS (Nat.le_of_ble_eq_true rfl) (fun H locs hP hD hS => ?_)
  refine cn_int 19 3 3 21 186 (0) hC hin hl (by decide +kernel) hP hD hS (Nat.le_of_ble_eq_true rfl) (fun H locs hP hD hS => ?_)
  refine cn_int 24 3 4 24 188 (0) hC hin hl (by decide +kernel) hP hD hS (Nat.le_of_ble_eq_true rfl) (fun H locs hP hD hS => ?_)
  refine cn_arr 29 1 3 5 27 190 false 4 78 hC hin hl (by decide +kernel) hP hD hS (Nat.le_of_ble_eq_true rfl) (Nat.le_of_ble_eq_true rfl) (Nat.le_of_ble_eq_true rfl) (fun q5 H locs hP hD hS => ?_)
  refine cn_arr 36 1 3 6 31 193 false 4 78 hC hin hl (by decide +kernel) hP hD hS (Nat.le_of_ble_eq_true rfl) (Nat.le_of_ble_eq_true rfl) (Nat.le_of_ble_eq_true rfl) (fun q6 H locs hP hD hS => ?_)
  refine cn_arr 43 1 3 7 34 196 false 4 78 hC hin hl (by decide +kernel) hP hD hS (Nat.le_of_ble_eq_true rfl) (Nat.le_of_ble_eq_true rfl) (Nat.le_of_ble_eq_true rfl) (fun q7 H locs hP hD hS => ?_)
  exact cn_ret 50 hC.1.1 hC.1.2.1 hr hlk (by decide +kernel) (fun j => ([q5, q6, q7] : List Nat).getD j 0) hP hD hS (Nat.le_of_ble_eq_true rfl) (Nat.le_of_ble_eq_true rfl)
def out_X1 (d : cn_G) (q : Nat) (ad : Nat → Nat) : va_W := [(q, .inr (1, [.ref (ad 0), .int (Int32.ofInt 0), .int (Int32.ofInt 0)])), (ad 0, cn_ar d false 510)]
set_option maxRecDepth 100000 in
set_option maxHeartbeats 4000000 in
theorem ct_X1 (l : Launch) (d : cn_G) : cn_Met l d yX1_init cX1_init 1 1 510 1 out_X1 := by
  refine cn_begin (own := RX1) (io := 3) (pl := 220) (p2 := 61) (p3 := 62) (by decide +kernel) ?_
  intro p e s m args below meth c L h0 hC hin hr hlk hl hP hD hS
  refine cn_arr 4 3 1 0 11 221 false 510 78 hC hin hl (by decide +kernel) hP hD hS (Nat.le_of_ble_eq_true rfl) (Nat.le_of_ble_eq_true rfl) (Nat.le_of_ble_eq_true rfl) (fun q0 H locs hP hD hS => ?_)
  refine cn_int 13 1 1 17 222 (0) hC hin hl (by decide +kernel) hP hD hS (Nat.le_of_ble_eq_true rfl) (fun H locs hP hD hS => ?_)
  refine cn_int 18 1 2 21 223 (0) hC hin hl (by decide +kernel) hP hD hS (Nat.le_of_ble_eq_true rfl) (fun H locs hP hD hS => ?_)
  exact cn_ret 23 hC.1.1 hC.1.2.1 hr hlk (by decide +kernel) (fun j => ([q0] : List Nat).getD j 0) hP hD hS (Nat.le_of_ble_eq_true rfl) (Nat.le_of_ble_eq_true rfl)
def out_X2 (d : cn_G) (q : Nat) (ad : Nat → Nat) : va_W := [(q, .inr (2, [.ref (ad 0), .ref (ad 1), .ref (ad 2)])), (ad 0, cn_ar d false 34), (ad 1, cn_ar d false 2), (ad 2, cn_ar d true 2)]
set_option maxRecDepth 100000 in
set_option maxHeartbeats 4000000 in
theorem ct_X2 (l : Launch) (d : cn_G) : cn_Met l d yX2_init cX2_init 1 3 38 2 out_X2 := by
  refine cn_begin (own := RX2) (io := 3) (pl := 237) (p2 := 61) (p3 := 62) (by decide +kernel) ?_
  intro p e s m args below meth c L h0 hC hin hr hlk hl hP hD hS
  refine cn_arr 4 2 2 0 11 238 false 34 78 hC hin hl (by decide +kernel) hP hD hS (Nat.le_of_ble_eq_true rfl) (Nat.le_of_ble_eq_true rfl) (Nat.le_of_ble_eq_true rfl) (fun q0 H locs hP hD hS => ?_)
  refine cn_arr 12 1 2 1 17 240 false 2 78 hC hin hl (by decide +kernel) hP hD hS (Nat.le_of_ble_eq_true rfl) (Nat.le_of_ble_eq_true rfl) (Nat.le_of_ble_eq_true rfl) (fun q1 H locs hP hD hS => ?_)
  refine cn_arr 19 1 2 2 20 242 true 2 251 hC hin hl (by decide +kernel) hP hD hS (Nat.le_of_ble_eq_true rfl) (Nat.le_of_ble_eq_true rfl) (Nat.le_of_ble_eq_true rfl) (fun q2 H locs hP hD hS => ?_)
  exact cn_ret 26 hC.1.1 hC.1.2.1 hr hlk (by decide +kernel) (fun j => ([q0, q1, q2] : List Nat).getD j 0) hP hD hS (Nat.le_of_ble_eq_true rfl) (Nat.le_of_ble_eq_true rfl)
def out_X7 (d : cn_G) (q : Nat) (ad : Nat → Nat) : va_W := [(q, .inr (7, [.ref (ad 0), .ref (ad 1), .ref (ad 2), .ref (ad 3), .int (Int32.ofInt 0)])), (ad 0, cn_ar d false 6), (ad 1, cn_ar d false 6), (ad 2, cn_ar d false 6), (ad 3, cn_ar d true 6)]
set_option maxRecDepth 100000 in
set_option maxHeartbeats 4000000 in
theorem ct_X7 (l : Launch) (d : cn_G) : cn_Met l d yX7_init cX7_init 1 4 24 7 out_X7 := by
  refine cn_begin (own := RX7) (io := 3) (pl := 257) (p2 := 61) (p3 := 62) (by decide +kernel) ?_
  intro p e s m args below meth c L h0 hC hin hr hlk hl hP hD hS
  refine cn_arr 4 2 7 0 9 258 false 6 78 hC hin hl (by decide +kernel) hP hD hS (Nat.le_of_ble_eq_true rfl) (Nat.le_of_ble_eq_true rfl) (Nat.le_of_ble_eq_true rfl) (fun q0 H locs hP hD hS => ?_)
  refine cn_arr 12 2 7 1 15 259 false 6 78 hC hin hl (by decide +kernel) hP hD hS (Nat.le_of_ble_eq_true rfl) (Nat.le_of_ble_eq_true rfl) (Nat.le_of_ble_eq_true rfl) (fun q1 H locs hP hD hS => ?_)
  refine cn_arr 20 2 7 2 18 260 false 6 78 hC hin hl (by decide +kernel) hP hD hS (Nat.le_of_ble_eq_true rfl) (Nat.le_of_ble_eq_true rfl) (Nat.le_of_ble_eq_true rfl) (fun q2 H locs hP hD hS => ?_)
  refine cn_arr 28 2 7 3 21 261 true 6 251 hC hin hl (by decide +kernel) hP hD hS (Nat.le_of_ble_eq_true rfl) (Nat.le_of_ble_eq_true rfl) (Nat.le_of_ble_eq_true rfl) (fun q3 H locs hP hD hS => ?_)
  refine cn_int 36 7 4 25 262 (0) hC hin hl (by decide +kernel) hP hD hS (Nat.le_of_ble_eq_true rfl) (fun H locs hP hD hS => ?_)
  exact cn_ret 41 hC.1.1 hC.1.2.1 hr hlk (by decide +kernel) (fun j => ([q0, q1, q2, q3] : List Nat).getD j 0) hP hD hS (Nat.le_of_ble_eq_true rfl) (Nat.le_of_ble_eq_true rfl)
def out_X0 (d : cn_G) (q : Nat) (ad : Nat → Nat) : va_W := [(q, .inr (0, [.ref (ad 0), .ref (ad 1), .int (Int32.ofInt 0)])), (ad 0, cn_ar d false 20), (ad 1, cn_ar d false 20)]
set_option maxRecDepth 100000 in
set_option maxHeartbeats 4000000 in
theorem ct_X0 (l : Launch) (d : cn_G) : cn_Met l d yX0_init cX0_init 1 2 40 0 out_X0 := by
  refine cn_begin (own := RX0) (io := 3) (pl := 280) (p2 := 61) (p3 := 62) (by decide +kernel) ?_
  intro p e s m args below meth c L h0 hC hin hr hlk hl hP hD hS
  refine cn_arr 4 2 0 0 9 281 false 20 78 hC hin hl (by decide +kernel) hP hD hS (Nat.le_of_ble_eq_true rfl) (Nat.le_of_ble_eq_true rfl) (Nat.le_of_ble_eq_true rfl) (fun q0 H locs hP hD hS => ?_)
  refine cn_arr 12 2 0 1 15 282 false 20 78 hC hin hl (by decide +kernel) hP hD hS (Nat.le_of_ble_eq_true rfl) (Nat.le_of_ble_eq_true rfl) (Nat.le_of_ble_eq_true rfl) (fun q1 H locs hP hD hS => ?_)
  refine cn_int 20 0 2 18 283 (0) hC hin hl (by decide +kernel) hP hD hS (Nat.le_of_ble_eq_true rfl) (fun H locs hP hD hS => ?_)
  exact cn_ret 25 hC.1.1 hC.1.2.1 hr hlk (by decide +kernel) (fun j => ([q0, q1] : List Nat).getD j 0) hP hD hS (Nat.le_of_ble_eq_true rfl) (Nat.le_of_ble_eq_true rfl)
def out_X6 (d : cn_G) (q : Nat) (ad : Nat → Nat) : va_W := [(q, .inr (6, [.ref (ad 0), .ref (ad 1), .ref (ad 2), .ref (ad 3), .ref (ad 4), .int (Int32.ofInt 0), .int (Int32.ofInt (-1)), .int (Int32.ofInt 0), .int (Int32.ofInt (-1)), .int (Int32.ofInt 0)])), (ad 0, cn_ar d false 120), (ad 1, cn_ar d false 120), (ad 2, cn_ar d false 120), (ad 3, cn_ar d false 120), (ad 4, .inr (3, [.int (Int32.ofInt 0), .int (Int32.ofInt 0), .int (Int32.ofInt 0), .int (Int32.ofInt 0), .int (Int32.ofInt 0), .ref (ad 5), .ref (ad 6), .ref (ad 7)])), (ad 5, cn_ar d false 4), (ad 6, cn_ar d false 4), (ad 7, cn_ar d false 4)]
set_option maxRecDepth 100000 in
set_option maxHeartbeats 4000000 in
theorem ct_X6 (l : Launch) (d : cn_G) : cn_Met l d yX6_init cX6_init 2 8 500 6 out_X6 := by
  refine cn_begin (own := RX6) (io := 3) (pl := 297) (p2 := 61) (p3 := 62) (by decide +kernel) ?_
  intro p e s m args below meth c L h0 hC hin hr hlk hl hP hD hS
  refine cn_arr 4 2 6 0 9 300 false 120 78 hC hin hl (by decide +kernel) hP hD hS (Nat.le_of_ble_eq_true rfl) (Nat.le_of_ble_eq_true rfl) (Nat.le_of_ble_eq_true rfl) (fun q0 H locs hP hD hS => ?_)
  refine cn_arr 12 2 6 1 15 301 false 120 78 hC hin hl (by decide +kernel) hP hD hS (Nat.le_of_ble_eq_true rfl) (Nat.le_of_ble_eq_true rfl) (Nat.le_of_ble_eq_true rfl) (fun q1 H locs hP hD hS => ?_)
  refine cn_arr 20 2 6 2 18 302 false 120 78 hC hin hl (by decide +kernel) hP hD hS (Nat.le_of_ble_eq_true rfl) (Nat.le_of_ble_eq_true rfl) (Nat.le_of_ble_eq_true rfl) (fun q2 H locs hP hD hS => ?_)
  refine cn_arr 28 2 6 3 21 303 false 120 78 hC hin hl (by decide +kernel) hP hD hS (Nat.le_of_ble_eq_true rfl) (Nat.le_of_ble_eq_true rfl) (Nat.le_of_ble_eq_true rfl) (fun q3 H locs hP hD hS => ?_)
  refine cn_obj 36 6 4 27 304 3 8 24 26 298 174 46 176 177 299 hC hin hl (ct_X3 l d) (by decide +kernel) (by decide +kernel) hP hD hS (Nat.le_of_ble_eq_true rfl) (Nat.le_of_ble_eq_true rfl) (Nat.le_of_ble_eq_true rfl) (Nat.le_of_ble_eq_true rfl) (Nat.le_of_ble_eq_true rfl) (fun q4 a4 H locs hP hD hS => ?_)
  refine cn_int 47 6 5 31 305 (0) hC hin hl (by decide +kernel) hP hD hS (Nat.le_of_ble_eq_true rfl) (fun H locs hP hD hS => ?_)
  refine cn_int 52 6 6 35 306 (-1) hC hin hl (by decide +kernel) hP hD hS (Nat.le_of_ble_eq_true rfl) (fun H locs hP hD hS => ?_)
  refine cn_int 57 6 7 38 307 (0) hC hin hl (by decide +kernel) hP hD hS (Nat.le_of_ble_eq_true rfl) (fun H locs hP hD hS => ?_)
  refine cn_int 62 6 8 41 309 (-1) hC hin hl (by decide +kernel) hP hD hS (Nat.le_of_ble_eq_true rfl) (fun H locs hP hD hS => ?_)
  refine cn_int 67 6 9 44 311 (0) hC hin hl (by decide +kernel) hP hD hS (Nat.le_of_ble_eq_true rfl) (fun H locs hP hD hS => ?_)
  exact cn_ret 72 hC.1.1 hC.1.2.1 hr hlk (by decide +kernel) (fun j => ([q0, q1, q2, q3, q4, a4 0, a4 1, a4 2] : List Nat).getD j 0) hP hD hS (Nat.le_of_ble_eq_true rfl) (Nat.le_of_ble_eq_true rfl)
def out_X9 (d : cn_G) (q : Nat) (ad : Nat → Nat) : va_W := [(q, .inr (9, [.ref (ad 0), .ref (ad 2), .ref (ad 11), .ref (ad 18), .ref (ad 22), .ref (ad 24), .ref (ad 28), .ref (ad 33), .ref (ad 36), .int (Int32.ofInt (-1)), .int (Int32.ofInt 0)])), (ad 0, .inr (8, [.ref (ad 1), .int (Int32.ofInt 0)])), (ad 1, cn_ar d false 200), (ad 2, .inr (5, [.ref (ad 3), .ref (ad 10), .int (Int32.ofInt 0), .int (Int32.ofInt (-1))])), (ad 3, .inr (4, [.int (Int32.ofInt 0), .int (Int32.ofInt 0), .int (Int32.ofInt 0), .int (Int32.ofInt 0), .int (Int32.ofInt 0), .int (Int32.ofInt 0), .ref (ad 4), .ref (ad 5), .ref (ad 6), .ref (ad 7), .ref (ad 8), .ref (ad 9)])), (ad 4, cn_ar d false 4), (ad 5, cn_ar d false 4), (ad 6, cn_ar d false 4), (ad 7, cn_ar d false 6), (ad 8, cn_ar d false 6), (ad 9, cn_ar d false 6), (ad 10, cn_ar d false 3), (ad 11, .inr (4, [.int (Int32.ofInt 0), .int (Int32.ofInt 0), .int (Int32.ofInt 0), .int (Int32.ofInt 0), .int (Int32.ofInt 0), .int (Int32.ofInt 0), .ref (ad 12), .ref (ad 13), .ref (ad 14), .ref (ad 15), .ref (ad 16), .ref (ad 17)])), (ad 12, cn_ar d false 4), (ad 13, cn_ar d false 4), (ad 14, cn_ar d false 4), (ad 15, cn_ar d false 6), (ad 16, cn_ar d false 6), (ad 17, cn_ar d false 6), (ad 18, .inr (3, [.int (Int32.ofInt 0), .int (Int32.ofInt 0), .int (Int32.ofInt 0), .int (Int32.ofInt 0), .int (Int32.ofInt 0), .ref (ad 19), .ref (ad 20), .ref (ad 21)])), (ad 19, cn_ar d false 4), (ad 20, cn_ar d false 4), (ad 21, cn_ar d false 4), (ad 22, .inr (1, [.ref (ad 23), .int (Int32.ofInt 0), .int (Int32.ofInt 0)])), (ad 23, cn_ar d false 510), (ad 24, .inr (2, [.ref (ad 25), .ref (ad 26), .ref (ad 27)])), (ad 25, cn_ar d false 34), (ad 26, cn_ar d false 2), (ad 27, cn_ar d true 2), (ad 28, .inr (7, [.ref (ad 29), .ref (ad 30), .ref (ad 31), .ref (ad 32), .int (Int32.ofInt 0)])), (ad 29, cn_ar d false 6), (ad 30, cn_ar d false 6), (ad 31, cn_ar d false 6), (ad 32, cn_ar d true 6), (ad 33, .inr (0, [.ref (ad 34), .ref (ad 35), .int (Int32.ofInt 0)])), (ad 34, cn_ar d false 20), (ad 35, cn_ar d false 20), (ad 36, .inr (6, [.ref (ad 37), .ref (ad 38), .ref (ad 39), .ref (ad 40), .ref (ad 41), .int (Int32.ofInt 0), .int (Int32.ofInt (-1)), .int (Int32.ofInt 0), .int (Int32.ofInt (-1)), .int (Int32.ofInt 0)])), (ad 37, cn_ar d false 120), (ad 38, cn_ar d false 120), (ad 39, cn_ar d false 120), (ad 40, cn_ar d false 120), (ad 41, .inr (3, [.int (Int32.ofInt 0), .int (Int32.ofInt 0), .int (Int32.ofInt 0), .int (Int32.ofInt 0), .int (Int32.ofInt 0), .ref (ad 42), .ref (ad 43), .ref (ad 44)])), (ad 42, cn_ar d false 4), (ad 43, cn_ar d false 4), (ad 44, cn_ar d false 4)]
set_option maxRecDepth 100000 in
set_option maxHeartbeats 4000000 in
theorem ct_X9 (l : Launch) (d : cn_G) : cn_Met l d yX9_init cX9_init 3 45 1449 9 out_X9 := by
  refine cn_begin (own := RX9) (io := 1) (pl := 60) (p2 := 61) (p3 := 62) (by decide +kernel) ?_
  intro p e s m args below meth c L h0 hC hin hr hlk hl hP hD hS
  refine cn_obj 4 9 0 10 334 8 2 7 9 63 64 43 66 67 65 hC hin hl (ct_X8 l d) (by decide +kernel) (by decide +kernel) hP hD hS (Nat.le_of_ble_eq_true rfl) (Nat.le_of_ble_eq_true rfl) (Nat.le_of_ble_eq_true rfl) (Nat.le_of_ble_eq_true rfl) (Nat.le_of_ble_eq_true rfl) (fun q0 a0 H locs hP hD hS => ?_)
  refine cn_obj 15 9 1 19 335 5 4 16 18 79 80 44 82 83 81 hC hin hl (ct_X5 l d) (by decide +kernel) (by decide +kernel) hP hD hS (Nat.le_of_ble_eq_true rfl) (Nat.le_of_ble_eq_true rfl) (Nat.le_of_ble_eq_true rfl) (Nat.le_of_ble_eq_true rfl) (Nat.le_of_ble_eq_true rfl) (fun q1 a1 H locs hP hD hS => ?_)
  refine cn_obj 26 9 2 26 336 4 12 23 25 171 86 45 88 89 172 hC hin hl (ct_X4 l d) (by decide +kernel) (by decide +kernel) hP hD hS (Nat.le_of_ble_eq_true rfl) (Nat.le_of_ble_eq_true rfl) (Nat.le_of_ble_eq_true rfl) (Nat.le_of_ble_eq_true rfl) (Nat.le_of_ble_eq_true rfl) (fun q2 a2 H locs hP hD hS => ?_)
  refine cn_obj 37 9 3 33 337 3 8 30 32 173 174 46 176 177 175 hC hin hl (ct_X3 l d) (by decide +kernel) (by decide +kernel) hP hD hS (Nat.le_of_ble_eq_true rfl) (Nat.le_of_ble_eq_true rfl) (Nat.le_of_ble_eq_true rfl) (Nat.le_of_ble_eq_true rfl) (Nat.le_of_ble_eq_true rfl) (fun q3 a3 H locs hP hD hS => ?_)
  refine cn_obj 48 9 4 40 338 1 3 37 39 215 216 47 218 219 217 hC hin hl (ct_X1 l d) (by decide +kernel) (by decide +kernel) hP hD hS (Nat.le_of_ble_eq_true rfl) (Nat.le_of_ble_eq_true rfl) (Nat.le_of_ble_eq_true rfl) (Nat.le_of_ble_eq_true rfl) (Nat.le_of_ble_eq_true rfl) (fun q4 a4 H locs hP hD hS => ?_)
  refine cn_obj 59 9 5 47 339 2 3 44 46 232 233 48 235 236 234 hC hin hl (ct_X2 l d) (by decide +kernel) (by decide +kernel) hP hD hS (Nat.le_of_ble_eq_true rfl) (Nat.le_of_ble_eq_true rfl) (Nat.le_of_ble_eq_true rfl) (Nat.le_of_ble_eq_true rfl) (Nat.le_of_ble_eq_true rfl) (fun q5 a5 H locs hP hD hS => ?_)
  refine cn_obj 70 9 6 54 340 7 5 51 53 252 253 49 255 256 254 hC hin hl (ct_X7 l d) (by decide +kernel) (by decide +kernel) hP hD hS (Nat.le_of_ble_eq_true rfl) (Nat.le_of_ble_eq_true rfl) (Nat.le_of_ble_eq_true rfl) (Nat.le_of_ble_eq_true rfl) (Nat.le_of_ble_eq_true rfl) (fun q6 a6 H locs hP hD hS => ?_)
  refine cn_obj 81 9 7 61 341 0 3 58 60 275 276 50 278 279 277 hC hin hl (ct_X0 l d) (by decide +kernel) (by decide +kernel) hP hD hS (Nat.le_of_ble_eq_true rfl) (Nat.le_of_ble_eq_true rfl) (Nat.le_of_ble_eq_true rfl) (Nat.le_of_ble_eq_true rfl) (Nat.le_of_ble_eq_true rfl) (fun q7 a7 H locs hP hD hS => ?_)
  refine cn_obj 92 9 8 68 342 6 10 65 67 292 293 51 295 296 294 hC hin hl (ct_X6 l d) (by decide +kernel) (by decide +kernel) hP hD hS (Nat.le_of_ble_eq_true rfl) (Nat.le_of_ble_eq_true rfl) (Nat.le_of_ble_eq_true rfl) (Nat.le_of_ble_eq_true rfl) (Nat.le_of_ble_eq_true rfl) (fun q8 a8 H locs hP hD hS => ?_)
  refine cn_int 103 9 9 72 343 (-1) hC hin hl (by decide +kernel) hP hD hS (Nat.le_of_ble_eq_true rfl) (fun H locs hP hD hS => ?_)
  refine cn_int 108 9 10 76 344 (0) hC hin hl (by decide +kernel) hP hD hS (Nat.le_of_ble_eq_true rfl) (fun H locs hP hD hS => ?_)
  exact cn_ret 113 hC.1.1 hC.1.2.1 hr hlk (by decide +kernel) (fun j => ([q0, a0 0, q1, a1 0, a1 1, a1 2, a1 3, a1 4, a1 5, a1 6, a1 7, q2, a2 0, a2 1, a2 2, a2 3, a2 4, a2 5, q3, a3 0, a3 1, a3 2, q4, a4 0, q5, a5 0, a5 1, a5 2, q6, a6 0, a6 1, a6 2, a6 3, q7, a7 0, a7 1, q8, a8 0, a8 1, a8 2, a8 3, a8 4, a8 5, a8 6, a8 7] : List Nat).getD j 0) hP hD hS (Nat.le_of_ble_eq_true rfl) (Nat.le_of_ble_eq_true rfl)
def out_X10 (d : cn_G) (q : Nat) (ad : Nat → Nat) : va_W := [(q, .inr (10, [.int (Int32.ofInt 0), .ref (ad 0), .int (Int32.ofInt 0), .int (Int32.ofInt 0), .int (Int32.ofInt 0), .int (Int32.ofInt 0), .int (Int32.ofInt 0), .int (Int32.ofInt (-1)), .int (Int32.ofInt 0), .int (Int32.ofInt 0), .int (Int32.ofInt 0), .int (Int32.ofInt 0), .ref (ad 1), .ref (ad 2), .ref (ad 3), .int (Int32.ofInt 0), .int (Int32.ofInt 0), .int (Int32.ofInt 0), .ref (ad 4), .ref (ad 5), .ref (ad 6), .ref (ad 7), .ref (ad 8), .ref (ad 9), .int (Int32.ofInt 0), .ref (ad 10), .ref (ad 11), .ref (ad 12), .int (Int32.ofInt 0), .int (Int32.ofInt 0), .ref (ad 13), .int (Int32.ofInt 0), .ref (ad 14), .ref (ad 15), .int (Int32.ofInt 0), .int (Int32.ofInt 0)])), (ad 0, cn_ar d false 200), (ad 1, cn_ar d false 3), (ad 2, cn_ar d false 12), (ad 3, cn_ar d false 18), (ad 4, cn_ar d false 3), (ad 5, cn_ar d false 12), (ad 6, cn_ar d false 18), (ad 7, cn_ar d false 17), (ad 8, cn_ar d false 17), (ad 9, cn_ar d false 510), (ad 10, cn_ar d false 34), (ad 11, cn_ar d false 2), (ad 12, cn_ar d true 2), (ad 13, cn_ar d false 24), (ad 14, cn_ar d false 40), (ad 15, cn_ar d true 100)]
set_option maxRecDepth 100000 in
set_option maxHeartbeats 4000000 in
theorem ct_X10 (l : Launch) (d : cn_G) : cn_Met l d yX10_init cX10_init 1 16 1012 10 out_X10 := by
  refine cn_begin (own := RX10) (io := 1) (pl := 797) (p2 := 61) (p3 := 62) (by decide +kernel) ?_
  intro p e s m args below meth c L h0 hC hin hr hlk hl hP hD hS
  refine cn_arr 4 3 10 1 7 799 false 200 78 hC hin hl (by decide +kernel) hP hD hS (Nat.le_of_ble_eq_true rfl) (Nat.le_of_ble_eq_true rfl) (Nat.le_of_ble_eq_true rfl) (fun q0 H locs hP hD hS => ?_)
  refine cn_int 13 10 7 13 805 (-1) hC hin hl (by decide +kernel) hP hD hS (Nat.le_of_ble_eq_true rfl) (fun H locs hP hD hS => ?_)
  refine cn_arr 18 1 10 12 17 810 false 3 78 hC hin hl (by decide +kernel) hP hD hS (Nat.le_of_ble_eq_true rfl) (Nat.le_of_ble_eq_true rfl) (Nat.le_of_ble_eq_true rfl) (fun q2 H locs hP hD hS => ?_)
  refine cn_arr 25 2 10 13 20 811 false 12 78 hC hin hl (by decide +kernel) hP hD hS (Nat.le_of_ble_eq_true rfl) (Nat.le_of_ble_eq_true rfl) (Nat.le_of_ble_eq_true rfl) (fun q3 H locs hP hD hS => ?_)
  refine cn_arr 33 2 10 14 23 812 false 18 78 hC hin hl (by decide +kernel) hP hD hS (Nat.le_of_ble_eq_true rfl) (Nat.le_of_ble_eq_true rfl) (Nat.le_of_ble_eq_true rfl) (fun q4 H locs hP hD hS => ?_)
  refine cn_arr 41 1 10 18 26 816 false 3 78 hC hin hl (by decide +kernel) hP hD hS (Nat.le_of_ble_eq_true rfl) (Nat.le_of_ble_eq_true rfl) (Nat.le_of_ble_eq_true rfl) (fun q5 H locs hP hD hS => ?_)
  refine cn_arr 48 2 10 19 29 817 false 12 78 hC hin hl (by decide +kernel) hP hD hS (Nat.le_of_ble_eq_true rfl) (Nat.le_of_ble_eq_true rfl) (Nat.le_of_ble_eq_true rfl) (fun q6 H locs hP hD hS => ?_)
  refine cn_arr 56 2 10 20 32 818 false 18 78 hC hin hl (by decide +kernel) hP hD hS (Nat.le_of_ble_eq_true rfl) (Nat.le_of_ble_eq_true rfl) (Nat.le_of_ble_eq_true rfl) (fun q7 H locs hP hD hS => ?_)
  refine cn_arr 64 2 10 21 35 819 false 17 78 hC hin hl (by decide +kernel) hP hD hS (Nat.le_of_ble_eq_true rfl) (Nat.le_of_ble_eq_true rfl) (Nat.le_of_ble_eq_true rfl) (fun q8 H locs hP hD hS => ?_)
  refine cn_arr 72 2 10 22 38 820 false 17 78 hC hin hl (by decide +kernel) hP hD hS (Nat.le_of_ble_eq_true rfl) (Nat.le_of_ble_eq_true rfl) (Nat.le_of_ble_eq_true rfl) (fun q9 H locs hP hD hS => ?_)
  refine cn_arr 80 3 10 23 41 821 false 510 78 hC hin hl (by decide +kernel) hP hD hS (Nat.le_of_ble_eq_true rfl) (Nat.le_of_ble_eq_true rfl) (Nat.le_of_ble_eq_true rfl) (fun q10 H locs hP hD hS => ?_)
  refine cn_arr 89 2 10 25 44 823 false 34 78 hC hin hl (by decide +kernel) hP hD hS (Nat.le_of_ble_eq_true rfl) (Nat.le_of_ble_eq_true rfl) (Nat.le_of_ble_eq_true rfl) (fun q11 H locs hP hD hS => ?_)
  refine cn_arr 97 1 10 26 47 824 false 2 78 hC hin hl (by decide +kernel) hP hD hS (Nat.le_of_ble_eq_true rfl) (Nat.le_of_ble_eq_true rfl) (Nat.le_of_ble_eq_true rfl) (fun q12 H locs hP hD hS => ?_)
  refine cn_arr 104 1 10 27 50 825 true 2 251 hC hin hl (by decide +kernel) hP hD hS (Nat.le_of_ble_eq_true rfl) (Nat.le_of_ble_eq_true rfl) (Nat.le_of_ble_eq_true rfl) (fun q13 H locs hP hD hS => ?_)
  refine cn_arr 111 2 10 30 54 828 false 24 78 hC hin hl (by decide +kernel) hP hD hS (Nat.le_of_ble_eq_true rfl) (Nat.le_of_ble_eq_true rfl) (Nat.le_of_ble_eq_true rfl) (fun q14 H locs hP hD hS => ?_)
  refine cn_arr 119 2 10 32 57 830 false 40 78 hC hin hl (by decide +kernel) hP hD hS (Nat.le_of_ble_eq_true rfl) (Nat.le_of_ble_eq_true rfl) (Nat.le_of_ble_eq_true rfl) (fun q15 H locs hP hD hS => ?_)
  refine cn_arr 127 2 10 33 60 831 true 100 251 hC hin hl (by decide +kernel) hP hD hS (Nat.le_of_ble_eq_true rfl) (Nat.le_of_ble_eq_true rfl) (Nat.le_of_ble_eq_true rfl) (fun q16 H locs hP hD hS => ?_)
  exact cn_ret 135 hC.1.1 hC.1.2.1 hr hlk (by decide +kernel) (fun j => ([q0, q2, q3, q4, q5, q6, q7, q8, q9, q10, q11, q12, q13, q14, q15, q16] : List Nat).getD j 0) hP hD hS (Nat.le_of_ble_eq_true rfl) (Nat.le_of_ble_eq_true rfl)
