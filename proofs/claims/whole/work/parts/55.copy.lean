section TC
variable {l : Launch} {g : am_G} {mem m : am_Mem} {t : Int}
/-- the plan is what was read -/
def rl_PL (st : Nat → Int) (nc nr : Nat) (m : am_Mem) : Prop := m 29 0 = st 0 ∧ m 29 1 = st 1 ∧ m 29 2 = st 2 ∧ m 29 3 = st 3 ∧ m 29 4 = nc ∧ m 29 5 = nr ∧ (∀ c : Nat, c < nc → m 30 c = st (6 + 3 * c) ∧ m 31 c = st (7 + 3 * c) ∧ m 32 c = st (8 + 3 * c)) ∧ ∀ r : Nat, r < nr → m 33 r = st (18 + 3 * r) ∧ m 34 r = st (19 + 3 * r) ∧ m 35 r = st (20 + 3 * r)
def rl_Jc (st : Nat → Int) (m : am_Mem) : Nat → Int → am_Mem → Prop := fun w v2 M => (∀ k, ¬ (29 ≤ k ∧ k ≤ 35) → M k = m k) ∧ ∃ c : Nat, v2 = c ∧ (c : Int) ≤ st 4 ∧ rl_PL st c 0 M ∧ w = 20 + (4 - c)
def rl_Jr (st : Nat → Int) (m : am_Mem) : Nat → Int → am_Mem → Prop := fun w v2 M => (∀ k, ¬ (29 ≤ k ∧ k ≤ 35) → M k = m k) ∧ ∃ r : Nat, v2 = r ∧ (r : Int) ≤ st 5 ∧ rl_PL st (st 4).toNat r M ∧ w = 6 - r
theorem sp_copy {st : Nat → Int} (hS : rl_SO st) (hD : rl_DR st m) : am_Mt l g 17 [.inr (.inl 29), .inr (.inl 21)] m (fun _ M => (∀ k, ¬ (29 ≤ k ∧ k ≤ 35) → M k = m k) ∧ rl_PL st (st 4).toNat (st 5).toNat M) := by
  obtain ⟨d0, d1, d2, d3, d4, d5, dc, dr⟩ := hD
  obtain ⟨s0, s4, s5, sz, -⟩ := hS
  refine fm_X4_copy (rl_Jc st m) (rl_Jr st m) (am_cq (fm_X4_clear_p (Q := am_vq 0 _) ⟨Or.inl rfl, rfl, rfl⟩) ?_) ?_ ?_
  · rintro z M ⟨rfl, rfl⟩
    refine ⟨fun h => ⟨24, rfl, rfl, fun k hk => ?_, 0, rfl, s4.1, ?_, rfl⟩, fun h => am_cq (fm_X4_setLoad_p (Q := am_vq 0 _) ⟨Or.inr rfl, rfl, rfl⟩) ?_⟩
    · rw [am_up_k (by omega), am_up_k (by omega), am_up_k (by omega), am_up_k (by omega), am_up_k (by omega), am_up_k (by omega)]
    · have e0 : st 0 = 0 := by rw [← d0]; exact h
      obtain ⟨z1, z2, z3, -⟩ := sz e0
      exact ⟨e0.symm, z1.symm, z2.symm, z3.symm, rfl, rfl, fun c hc => by omega, fun c hc => by omega⟩
    · rintro z M ⟨rfl, rfl⟩
      have h1 : ¬ m 21 0 = 0 := h
      refine ⟨24, rfl, rfl, fun k hk => ?_, 0, rfl, s4.1, ⟨?_, d1, d2, d3, rfl, rfl, fun c hc => by omega, fun c hc => by omega⟩, rfl⟩
      · rw [am_up_k (by omega), am_up_k (by omega), am_up_k (by omega), am_up_k (by omega), am_up_k (by omega), am_up_k (by omega), am_up_k (by omega), am_up_k (by omega), am_up_k (by omega), am_up_k (by omega)]
      · show (1 : Int) = st 0; omega
  · rintro w v2 M ⟨hfr, c, rfl, hc, hP, rfl⟩
    have e21 := hfr 21 (by omega)
    rw [e21, d4]
    have nx : st 4 ≤ c → ∃ n' : Nat, n' < 20 + (4 - c) ∧ (29 : Nat) = 29 ∧ (21 : Nat) = 21 ∧ rl_Jr st m n' 0 M := fun h => ⟨6 - 0, by omega, rfl, rfl, hfr, 0, rfl, s5.1, by rw [show (st 4).toNat = c by omega]; exact hP, rfl⟩
    refine ⟨fun h => nx h, fun h => ⟨fun h' => by omega, fun h' => ⟨by omega, by omega, by omega, ?_⟩⟩⟩
    obtain ⟨g1, g2, g3⟩ := dc c h
    obtain ⟨p0, p1, p2, p3, p4, p5, pc, pr⟩ := hP
    rw [Int.toNat_natCast, hfr 22 (by omega), hfr 23 (by omega), hfr 24 (by omega), g1, g2, g3]
    refine am_cq (fm_X4_addCord_p (Q := am_vq 0 (am_up (am_up (am_up (am_up M 30 c (st (6 + 3 * c))) 31 c (st (7 + 3 * c))) 32 c (st (8 + 3 * c))) 29 4 (M 29 4 + 1))) ⟨fun h => by omega, fun _ => ⟨fun _ => ⟨by omega, by omega, by omega, by omega, rfl, by rw [p4, Int.toNat_natCast]⟩, fun h => by omega⟩⟩) ?_
    rintro z M' ⟨rfl, rfl⟩
    refine ⟨by omega, 20 + (4 - (c + 1)), by omega, rfl, rfl, fun k hk => by rw [am_up_k (by omega), am_up_k (by omega), am_up_k (by omega), am_up_k (by omega), hfr k hk], c + 1, by omega, by omega, ⟨p0, p1, p2, p3, by show M 29 4 + 1 = _; omega, p5, fun j hj => ?_, pr⟩, rfl⟩
    show am_up M 30 c (st (6 + 3 * c)) 30 j = _ ∧ am_up M 31 c (st (7 + 3 * c)) 31 j = _ ∧ am_up M 32 c (st (8 + 3 * c)) 32 j = _
    by_cases e : j = c
    · subst e; rw [am_up_at, am_up_at, am_up_at]; exact ⟨rfl, rfl, rfl⟩
    · rw [am_up_ni e, am_up_ni e, am_up_ni e]; exact pc j (by omega)
  · rintro w v2 M ⟨hfr, r, rfl, hr, hP, rfl⟩
    have e21 := hfr 21 (by omega)
    rw [e21, d5]
    have fin : st 5 ≤ r → rl_PL st (st 4).toNat (st 5).toNat M := fun h => by rw [show (st 5).toNat = r by omega]; exact hP
    refine ⟨fun h => ⟨hfr, fin h⟩, fun h => ⟨fun h' => by omega, fun h' => ⟨by omega, by omega, by omega, ?_⟩⟩⟩
    obtain ⟨g1, g2, g3⟩ := dr r h
    obtain ⟨p0, p1, p2, p3, p4, p5, pc, pr⟩ := hP
    rw [Int.toNat_natCast, hfr 25 (by omega), hfr 26 (by omega), hfr 27 (by omega), g1, g2, g3]
    refine am_cq (fm_X4_addRoad_p (Q := am_vq 0 (am_up (am_up (am_up (am_up M 33 r (st (18 + 3 * r))) 34 r (st (19 + 3 * r))) 35 r (st (20 + 3 * r))) 29 5 (M 29 5 + 1))) ⟨fun h => by omega, fun _ => ⟨fun _ => ⟨by omega, by omega, by omega, by omega, rfl, by rw [p5, Int.toNat_natCast]⟩, fun h => by omega⟩⟩) ?_
    rintro z M' ⟨rfl, rfl⟩
    refine ⟨by omega, 6 - (r + 1), by omega, rfl, rfl, fun k hk => by rw [am_up_k (by omega), am_up_k (by omega), am_up_k (by omega), am_up_k (by omega), hfr k hk], r + 1, by omega, by omega, ⟨p0, p1, p2, p3, p4, by show M 29 5 + 1 = _; omega, pc, fun j hj => ?_⟩, rfl⟩
    show am_up M 33 r (st (18 + 3 * r)) 33 j = _ ∧ am_up M 34 r (st (19 + 3 * r)) 34 j = _ ∧ am_up M 35 r (st (20 + 3 * r)) 35 j = _
    by_cases e : j = r
    · subst e; rw [am_up_at, am_up_at, am_up_at]; exact ⟨rfl, rfl, rfl⟩
    · rw [am_up_ni e, am_up_ni e, am_up_ni e]; exact pr j (by omega)
/-- Now begins: the class -/
def rl_BG (nc : Int) (m M : am_Mem) : Prop := (∀ k, ¬ (36 ≤ k ∧ k ≤ 39) → M k = m k) ∧ M 36 0 = m 29 1 ∧ M 36 1 = 0 ∧ M 36 2 = 0 ∧ M 36 3 = 0 ∧ M 36 4 = 0 ∧ ∀ c : Nat, (c : Int) < nc → M 37 c = m 30 c ∧ M 38 c = m 31 c ∧ M 39 c = 0
theorem sp_begin_n (h0 : 0 ≤ m 29 4) (h4 : m 29 4 ≤ 4) : am_Mt l g 7 [.inr (.inl 36), .inr (.inl 29)] m (fun _ M => rl_BG (m 29 4) m M) := by
  refine fm_X3_begin_n (fun n v2 M => ∃ i : Nat, v2 = i ∧ (i : Int) ≤ m 29 4 ∧ rl_BG i m M ∧ n = 4 - i) ⟨4, rfl, rfl, 0, rfl, by omega, ⟨fun k hk => ?_, rfl, rfl, rfl, rfl, rfl, fun c hc => by omega⟩, rfl⟩ ?_
  · rw [am_up_k (by omega), am_up_k (by omega), am_up_k (by omega), am_up_k (by omega), am_up_k (by omega)]
  · rintro n v2 M ⟨i, rfl, hi, ⟨hm, w0, w1, w2, w3, w4, wc⟩, rfl⟩
    have e29 := hm 29 (by omega)
    rw [e29]
    refine ⟨fun h => ⟨hm, w0, w1, w2, w3, w4, fun c hcc => wc c (by omega)⟩, fun h => ⟨fun h' => by omega, fun h' => ⟨by omega, by omega, ?_⟩⟩⟩
    rw [Int.toNat_natCast]
    have hp := sp_pull_n (l := l) (g := g) (mem := am_up M 37 i (M 30 i)) (c := i) (show M 29 4 ≤ 4 by rw [e29]; omega) (by omega) (show (i : Int) < M 29 4 by rw [e29]; omega)
    rw [Int.toNat_natCast] at hp
    refine am_cl hp ⟨by omega, 4 - (i + 1), by omega, rfl, rfl, i + 1, by omega, by omega, ⟨fun k hk => ?_, w0, w1, w2, w3, w4, fun c hcc => ?_⟩, rfl⟩
    · rw [am_up_k (by omega), am_up_k (by omega), am_up_k (by omega), hm k hk]
    · show am_up M 37 i (M 30 i) 37 c = _ ∧ am_up (am_up M 37 i (M 30 i)) 38 i (M 31 i) 38 c = _ ∧ am_up (am_up (am_up M 37 i (M 30 i)) 38 i (M 31 i)) 39 i 0 39 c = _
      by_cases e : c = i
      · subst e; rw [am_up_at, am_up_at, am_up_at, hm 30 (by omega), hm 31 (by omega)]; exact ⟨rfl, rfl, rfl⟩
      · rw [am_up_ni e, am_up_ni e, am_up_ni e]; exact wc c (by omega)
end TC
