/-! the law: the table is right -/
theorem lw_tokR_ok {lo n : Nat} (h : lw_tokR lo n = true) {pc : Nat} (h1 : lo ≤ pc) (h2 : pc < lo + n) {ae : am_AE} (ha : am_T_law pc = some ae) : am_okE code "RoofMattressLaw" 4 7 false pc ae = true := by
  have := List.all_eq_true.mp h (pc - lo) (List.mem_range.mpr (by omega))
  rw [show lo + (pc - lo) = pc by omega, ha] at this
  exact this
theorem lw_tokN : ∀ pc, pc < 18 → am_T_law pc = none := by decide +kernel
theorem am_ok_law : ∀ pc ae, am_tb 1086 am_T_law pc = some ae → am_okE code "RoofMattressLaw" 4 7 false pc ae = true := by
  intro pc ae ha
  unfold am_tb at ha
  cases hb : Nat.blt pc 1086 with
  | false => rw [hb] at ha; cases ha
  | true =>
    rw [hb] at ha
    simp only [cond_true] at ha
    have hN := am_blt hb
    rcases Nat.lt_or_ge pc 18 with h0 | h0
    · rw [lw_tokN pc h0] at ha; cases ha
    rcases Nat.lt_or_ge pc 200 with h1 | h1
    · exact lw_tokR_ok lw_tok0 (lo := 18) (n := 182) (by omega) (by omega) ha
    rcases Nat.lt_or_ge pc 248 with h2 | h2
    · exact lw_tokR_ok lw_tok1 (lo := 200) (n := 48) (by omega) (by omega) ha
    rcases Nat.lt_or_ge pc 284 with h3 | h3
    · exact lw_tokR_ok lw_tok2 (lo := 248) (n := 36) (by omega) (by omega) ha
    rcases Nat.lt_or_ge pc 320 with h4 | h4
    · exact lw_tokR_ok lw_tok3 (lo := 284) (n := 36) (by omega) (by omega) ha
    rcases Nat.lt_or_ge pc 356 with h5 | h5
    · exact lw_tokR_ok lw_tok4 (lo := 320) (n := 36) (by omega) (by omega) ha
    rcases Nat.lt_or_ge pc 394 with h6 | h6
    · exact lw_tokR_ok lw_tok5 (lo := 356) (n := 38) (by omega) (by omega) ha
    rcases Nat.lt_or_ge pc 434 with h7 | h7
    · exact lw_tokR_ok lw_tok6 (lo := 394) (n := 40) (by omega) (by omega) ha
    rcases Nat.lt_or_ge pc 476 with h8 | h8
    · exact lw_tokR_ok lw_tok7 (lo := 434) (n := 42) (by omega) (by omega) ha
    rcases Nat.lt_or_ge pc 514 with h9 | h9
    · exact lw_tokR_ok lw_tok8 (lo := 476) (n := 38) (by omega) (by omega) ha
    rcases Nat.lt_or_ge pc 554 with h10 | h10
    · exact lw_tokR_ok lw_tok9 (lo := 514) (n := 40) (by omega) (by omega) ha
    rcases Nat.lt_or_ge pc 590 with h11 | h11
    · exact lw_tokR_ok lw_tok10 (lo := 554) (n := 36) (by omega) (by omega) ha
    rcases Nat.lt_or_ge pc 626 with h12 | h12
    · exact lw_tokR_ok lw_tok11 (lo := 590) (n := 36) (by omega) (by omega) ha
    rcases Nat.lt_or_ge pc 664 with h13 | h13
    · exact lw_tokR_ok lw_tok12 (lo := 626) (n := 38) (by omega) (by omega) ha
    rcases Nat.lt_or_ge pc 704 with h14 | h14
    · exact lw_tokR_ok lw_tok13 (lo := 664) (n := 40) (by omega) (by omega) ha
    rcases Nat.lt_or_ge pc 740 with h15 | h15
    · exact lw_tokR_ok lw_tok14 (lo := 704) (n := 36) (by omega) (by omega) ha
    rcases Nat.lt_or_ge pc 772 with h16 | h16
    · exact lw_tokR_ok lw_tok15 (lo := 740) (n := 32) (by omega) (by omega) ha
    rcases Nat.lt_or_ge pc 810 with h17 | h17
    · exact lw_tokR_ok lw_tok16 (lo := 772) (n := 38) (by omega) (by omega) ha
    rcases Nat.lt_or_ge pc 848 with h18 | h18
    · exact lw_tokR_ok lw_tok17 (lo := 810) (n := 38) (by omega) (by omega) ha
    rcases Nat.lt_or_ge pc 886 with h19 | h19
    · exact lw_tokR_ok lw_tok18 (lo := 848) (n := 38) (by omega) (by omega) ha
    rcases Nat.lt_or_ge pc 922 with h20 | h20
    · exact lw_tokR_ok lw_tok19 (lo := 886) (n := 36) (by omega) (by omega) ha
    rcases Nat.lt_or_ge pc 958 with h21 | h21
    · exact lw_tokR_ok lw_tok20 (lo := 922) (n := 36) (by omega) (by omega) ha
    rcases Nat.lt_or_ge pc 1004 with h22 | h22
    · exact lw_tokR_ok lw_tok21 (lo := 958) (n := 46) (by omega) (by omega) ha
    rcases Nat.lt_or_ge pc 1044 with h23 | h23
    · exact lw_tokR_ok lw_tok22 (lo := 1004) (n := 40) (by omega) (by omega) ha
    exact lw_tokR_ok lw_tok23 (lo := 1044) (n := 42) (by omega) (by omega) ha
