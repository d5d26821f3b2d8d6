section MN
variable {l : Launch} {g : am_G} {mem m : am_Mem} {t : Int}
theorem mp_fails {c : Int} : am_Mt l g 97 [.inr (.inl 0), .inl c] m (am_vq 0 (am_up (am_up m 0 7 (m 0 3)) 0 8 c)) := fm_X10_fails ⟨Or.inl rfl, rfl, rfl⟩
def rl_QI (f : Nat → Int) (n : Nat) (lo hi : Int) (p : Nat) (m : am_Mem) : am_Po := fun z m' => (∀ k, k ≠ 0 → m' k = m k) ∧ (∀ j, ¬ (2 ≤ j ∧ j ≤ 8) → m' 0 j = m 0 j) ∧ ((∃ e v, rl_nm f n lo hi p = .inl (e, v) ∧ z = 1 ∧ m' 0 2 = (e : Nat) ∧ m' 0 5 = v) ∨ (∃ c a, rl_nm f n lo hi p = .inr (c, a) ∧ z = 0 ∧ m' 0 7 = (a : Nat) ∧ m' 0 8 = c))
theorem mp_isNumber {f : Nat → Int} {n p : Nat} {lo hi : Int} (hT : rl_TM f n m) (hp : m 0 2 = p) (hpn : p ≤ n) : am_Mt l g 98 [.inr (.inl 0), .inl lo, .inl hi] m (rl_QI f n lo hi p m) := by
  refine fm_X10_isNumber (am_cq (mp_nextToken hT hp hpn) ?_)
  rintro z M ⟨fr, fj, m3, hc⟩
  have hsk := rl_sk_bd (f := f) hpn
  have bad : ∀ c : Int, rl_nm f n lo hi p = .inr (c, rl_sk f n p) → rl_QI f n lo hi p m 0 (am_up (am_up M 0 7 (M 0 3)) 0 8 c) := fun c hc => ⟨fun k hk => by rw [am_up_k hk, am_up_k hk]; exact fr k hk, fun j hj => by rw [am_up_ni (by omega), am_up_ni (by omega)]; exact fj j (by omega), Or.inr ⟨c, rl_sk f n p, hc, rfl, m3, rfl⟩⟩
  refine ⟨fun h => ?_, fun h => am_cl mp_fails ⟨Or.inl rfl, bad 1 ?_⟩⟩
  · rcases hc with ⟨_, q, _⟩ | ⟨q1, _, q, _⟩ | ⟨q1, q2, _, q4, q5, q6⟩
    · omega
    · have := (hT.2.2 _ q1).2; omega
    · have hnm : rl_nm f n lo hi p = if (rl_sc f n (rl_sk f n p) 0 0).1 - rl_sk f n p ≤ 3 ∧ lo ≤ (rl_sc f n (rl_sk f n p) 0 0).2 ∧ (rl_sc f n (rl_sk f n p) 0 0).2 ≤ hi then .inl (rl_sc f n (rl_sk f n p) 0 0) else .inr (2, rl_sk f n p) := by
        unfold rl_nm rl_nq; rw [if_pos ⟨q1, q2⟩]
      refine ⟨fun h4 => am_cl mp_fails ⟨fun _ => ⟨Or.inl rfl, bad 2 ?_⟩, fun h => absurd rfl h⟩, fun h4 => am_cbn (mp_in _ _ _) (fun hw => ⟨Or.inr rfl, fr, fun j hj => fj j (by omega), Or.inl ⟨_, _, ?_, rfl, q4, q5⟩⟩) (fun hw => am_cl mp_fails ⟨fun _ => ⟨Or.inl rfl, bad 2 ?_⟩, fun h => absurd rfl h⟩)⟩
      · rw [hnm, if_neg (by omega)]
      · rw [hnm, q5] at *
        rw [if_pos ⟨by omega, hw⟩]
      · rw [hnm, if_neg (fun hh => hw (by rw [q5]; exact hh.2))]
  · unfold rl_nm rl_nq
    rcases hc with ⟨q, _, _⟩ | ⟨q1, q2, q, _⟩ | ⟨q1, q2, q3, _⟩
    · rw [if_neg (by omega)]
    · rw [if_neg (fun hh => q2 hh.2)]
    · exact absurd q3 h
theorem rl_TM_cg {f : Nat → Int} {n : Nat} {m m' : am_Mem} (h0 : m' 0 0 = m 0 0) (h1 : m' 1 = m 1) (hT : rl_TM f n m) : rl_TM f n m' := by
  unfold rl_TM at *; rw [h0, h1]; exact hT
def rl_Q3 (f : Nat → Int) (n : Nat) (st : Nat → Int) (K p R a : Nat) (m : am_Mem) : am_Po := fun z m' => (∀ k, k ≠ 0 → k ≠ R → m' k = m k) ∧ (∀ j, (j < a ∨ a + 3 ≤ j) → m' R j = m R j) ∧ (∀ j, ¬ (2 ≤ j ∧ j ≤ 8) → m' 0 j = m 0 j) ∧ ((∃ p' v0 v1 v2, rl_f0 f n st K p = .inl (p', rl_tk st K v0 v1 v2) ∧ z = 1 ∧ m' 0 2 = (p' : Nat) ∧ (p < p' ∧ p' ≤ n) ∧ m' R a = v0 ∧ m' R (a + 1) = v1 ∧ m' R (a + 2) = v2) ∨ (∃ c b, rl_f0 f n st K p = .inr (c, b) ∧ z = 0 ∧ m' 0 7 = (b : Nat) ∧ m' 0 8 = c))
theorem mp_areThree_readLoad {f : Nat → Int} {n p a K : Nat} {st : Nat → Int} {x : Int} (hx : x = a) (hT : rl_TM f n m) (hp : m 0 2 = p) (hpn : p ≤ n) (ha : a + 2 < 3) : am_Mt l g 99 [.inr (.inl 0), .inr (.inl 2), .inl x, .inl (am_least (K * 3 + 0)), .inl (am_most (K * 3 + 0)), .inl (am_least (K * 3 + 1)), .inl (am_most (K * 3 + 1)), .inl (am_least (K * 3 + 2)), .inl (am_most (K * 3 + 2))] m (rl_Q3 f n st K p 2 a m) := by
  subst hx
  have k1 : ((a : Int) + 1).toNat = a + 1 := by omega
  have k2 : ((a : Int) + 2).toNat = a + 2 := by omega
  refine fm_X10_areThree_readLoad (am_cq (mp_isNumber hT hp hpn) ?_)
  rw [Int.toNat_natCast, k1, k2]
  rintro z M1 ⟨fr1, fj1, (⟨e0, v0, q1, rfl, q2, q3⟩ | ⟨c, b, q1, rfl, q2, q3⟩)⟩
  rotate_left
  · refine ⟨fun h => absurd rfl h, fun _ => ⟨Or.inl rfl, fun k h1 h2 => fr1 k h1, fun j _ => by rw [fr1 2 (by omega)], fj1, Or.inr ⟨c, b, ?_, rfl, q2, q3⟩⟩⟩
    unfold rl_f0; rw [q1]
  have b0 := rl_nm_l hpn q1
  have eA : rl_f0 f n st K p = rl_f1 f n st K e0 v0 := by unfold rl_f0; rw [q1]
  refine ⟨fun _ => ⟨by omega, ?_⟩, fun h => absurd h (by decide)⟩
  rw [q3]
  generalize hA : am_up M1 2 a v0 = A
  have frA : ∀ k, k ≠ 0 → k ≠ 2 → A k = m k := fun k h1 h2 => by rw [← hA, am_up_k h2, fr1 k h1]
  have fjA : ∀ j, ¬ (2 ≤ j ∧ j ≤ 8) → A 0 j = m 0 j := fun j hj => by rw [← hA]; exact fj1 j hj
  have rA : (∀ j, (j < a ∨ a + 3 ≤ j) → A 2 j = m 2 j) ∧ A 2 a = v0 := by
    rw [← hA]; exact ⟨fun j hj => by rw [am_up_ni (by omega), fr1 2 (by omega)], am_up_at _ _ _ _⟩
  have TA : rl_TM f n A := rl_TM_cg (fjA 0 (by omega)) (frA 1 (by omega) (by omega)) hT
  have pA : A 0 2 = e0 := by rw [← hA]; exact q2
  clear hA fr1 fj1 q2 q3
  refine am_cq (mp_isNumber TA pA b0.2.1) ?_
  rintro z M2 ⟨fr2, fj2, (⟨e1, v1, q1', rfl, q2, q3⟩ | ⟨c, b, q1', rfl, q2, q3⟩)⟩
  rotate_left
  · refine ⟨fun h => absurd rfl h, fun _ => ⟨Or.inl rfl, fun k h1 h2 => by rw [fr2 k h1, frA k h1 h2], fun j hj => by rw [fr2 2 (by omega), rA.1 j hj], fun j hj => by rw [fj2 j hj, fjA j hj], Or.inr ⟨c, b, ?_, rfl, q2, q3⟩⟩⟩
    rw [eA]; unfold rl_f1; rw [q1']
  have b1 := rl_nm_l b0.2.1 q1'
  have eB : rl_f0 f n st K p = rl_f2 f n st K e1 v0 v1 := by rw [eA]; unfold rl_f1; rw [q1']
  refine ⟨fun _ => ⟨by omega, by omega, ?_⟩, fun h => absurd h (by decide)⟩
  rw [q3]
  generalize hB : am_up M2 2 (a + 1) v1 = B
  have frB : ∀ k, k ≠ 0 → k ≠ 2 → B k = m k := fun k h1 h2 => by rw [← hB, am_up_k h2, fr2 k h1, frA k h1 h2]
  have fjB : ∀ j, ¬ (2 ≤ j ∧ j ≤ 8) → B 0 j = m 0 j := fun j hj => by rw [← hB]; exact (fj2 j hj).trans (fjA j hj)
  have rB : (∀ j, (j < a ∨ a + 3 ≤ j) → B 2 j = m 2 j) ∧ B 2 a = v0 ∧ B 2 (a + 1) = v1 := by
    rw [← hB]; exact ⟨fun j hj => by rw [am_up_ni (by omega), fr2 2 (by omega), rA.1 j hj], by rw [am_up_ni (by omega), fr2 2 (by omega)]; exact rA.2, am_up_at _ _ _ _⟩
  have TB : rl_TM f n B := rl_TM_cg (fjB 0 (by omega)) (frB 1 (by omega) (by omega)) hT
  have pB : B 0 2 = e1 := by rw [← hB]; exact q2
  clear hB fr2 fj2 q2 q3
  refine am_cq (mp_isNumber TB pB b1.2.1) ?_
  rintro z M3 ⟨fr3, fj3, (⟨e2, v2, q1'', rfl, q2, q3⟩ | ⟨c, b, q1'', rfl, q2, q3⟩)⟩
  rotate_left
  · refine ⟨fun h => absurd rfl h, fun _ => ⟨Or.inl rfl, fun k h1 h2 => by rw [fr3 k h1, frB k h1 h2], fun j hj => by rw [fr3 2 (by omega), rB.1 j hj], fun j hj => by rw [fj3 j hj, fjB j hj], Or.inr ⟨c, b, ?_, rfl, q2, q3⟩⟩⟩
    rw [eB]; unfold rl_f2; rw [q1'']
  have b2 := rl_nm_l b1.2.1 q1''
  have eC : rl_f0 f n st K p = rl_f3 f n st K e2 v0 v1 v2 := by rw [eB]; unfold rl_f2; rw [q1'']
  refine ⟨fun _ => ⟨by omega, by omega, ?_⟩, fun h => absurd h (by decide)⟩
  rw [q3]
  generalize hC : am_up M3 2 (a + 2) v2 = C
  have frC : ∀ k, k ≠ 0 → k ≠ 2 → C k = m k := fun k h1 h2 => by rw [← hC, am_up_k h2, fr3 k h1, frB k h1 h2]
  have fjC : ∀ j, ¬ (2 ≤ j ∧ j ≤ 8) → C 0 j = m 0 j := fun j hj => by rw [← hC]; exact (fj3 j hj).trans (fjB j hj)
  have rC : (∀ j, (j < a ∨ a + 3 ≤ j) → C 2 j = m 2 j) ∧ C 2 a = v0 ∧ C 2 (a + 1) = v1 ∧ C 2 (a + 2) = v2 := by
    rw [← hC]; exact ⟨fun j hj => by rw [am_up_ni (by omega), fr3 2 (by omega), rB.1 j hj], by rw [am_up_ni (by omega), fr3 2 (by omega)]; exact rB.2.1, by rw [am_up_ni (by omega), fr3 2 (by omega)]; exact rB.2.2, am_up_at _ _ _ _⟩
  have TC : rl_TM f n C := rl_TM_cg (fjC 0 (by omega)) (frC 1 (by omega) (by omega)) hT
  have pC : C 0 2 = e2 := by rw [← hC]; exact q2
  clear hC fr3 fj3 q2 q3
  have hsk := rl_sk_bd (f := f) b2.2.1
  refine am_cq (mp_nextToken TC pC b2.2.1) ?_
  rintro z D ⟨frD, fjD, d3, hc⟩
  refine ⟨fun h59 => ⟨Or.inr rfl, fun k h1 h2 => by rw [frD k h1, frC k h1 h2], fun j hj => by rw [frD 2 (by omega), rC.1 j hj], fun j hj => by rw [fjD j (by omega), fjC j hj], Or.inl ⟨rl_sk f n e2 + 1, v0, v1, v2, ?_, rfl, ?_, ?_, ?_, ?_, ?_⟩⟩, fun h59 => am_cl mp_fails ⟨fun _ => ⟨Or.inl rfl, fun k h1 h2 => by rw [am_up_k h1, am_up_k h1, frD k h1, frC k h1 h2], fun j hj => ?_, fun j hj => by rw [am_up_ni (by omega), am_up_ni (by omega), fjD j (by omega), fjC j hj], Or.inr ⟨1, rl_sk f n e2, ?_, rfl, d3, rfl⟩⟩, fun h => absurd rfl h⟩⟩
  · rcases hc with ⟨_, q, _⟩ | ⟨g1, g2, g3, g4⟩ | ⟨_, _, q, _⟩
    · omega
    · rw [eC]; unfold rl_f3; rw [if_pos ⟨g1, by omega⟩]
    · omega
  · rcases hc with ⟨_, q, _⟩ | ⟨g1, g2, g3, g4⟩ | ⟨_, _, q, _⟩
    · omega
    · rw [g4]; omega
    · omega
  · rcases hc with ⟨_, q, _⟩ | ⟨g1, g2, g3, g4⟩ | ⟨_, _, q, _⟩
    · omega
    · omega
    · omega
  · rw [frD 2 (by omega)]; exact rC.2.1
  · rw [frD 2 (by omega)]; exact rC.2.2.1
  · rw [frD 2 (by omega)]; exact rC.2.2.2
  · show D 2 j = _; rw [frD 2 (by omega), rC.1 j hj]
  · rw [eC]; unfold rl_f3
    rcases hc with ⟨q, _, _⟩ | ⟨g1, g2, g3, g4⟩ | ⟨g1, g2, q, _⟩
    · rw [if_neg (by omega)]
    · rw [if_neg (fun hh => h59 (by rw [g3]; exact hh.2))]
    · rw [if_neg (fun hh => by have := hh.2; omega)]
theorem mp_areThree_readCord {f : Nat → Int} {n p a K : Nat} {st : Nat → Int} {x : Int} (hx : x = a) (hT : rl_TM f n m) (hp : m 0 2 = p) (hpn : p ≤ n) (ha : a + 2 < 12) : am_Mt l g 99 [.inr (.inl 0), .inr (.inl 3), .inl x, .inl (am_least (K * 3 + 0)), .inl (am_most (K * 3 + 0)), .inl (am_least (K * 3 + 1)), .inl (am_most (K * 3 + 1)), .inl (am_least (K * 3 + 2)), .inl (am_most (K * 3 + 2))] m (rl_Q3 f n st K p 3 a m) := by
  subst hx
  have k1 : ((a : Int) + 1).toNat = a + 1 := by omega
  have k2 : ((a : Int) + 2).toNat = a + 2 := by omega
  refine fm_X10_areThree_readCord (am_cq (mp_isNumber hT hp hpn) ?_)
  rw [Int.toNat_natCast, k1, k2]
  rintro z M1 ⟨fr1, fj1, (⟨e0, v0, q1, rfl, q2, q3⟩ | ⟨c, b, q1, rfl, q2, q3⟩)⟩
  rotate_left
  · refine ⟨fun h => absurd rfl h, fun _ => ⟨Or.inl rfl, fun k h1 h2 => fr1 k h1, fun j _ => by rw [fr1 3 (by omega)], fj1, Or.inr ⟨c, b, ?_, rfl, q2, q3⟩⟩⟩
    unfold rl_f0; rw [q1]
  have b0 := rl_nm_l hpn q1
  have eA : rl_f0 f n st K p = rl_f1 f n st K e0 v0 := by unfold rl_f0; rw [q1]
  refine ⟨fun _ => ⟨by omega, ?_⟩, fun h => absurd h (by decide)⟩
  rw [q3]
  generalize hA : am_up M1 3 a v0 = A
  have frA : ∀ k, k ≠ 0 → k ≠ 3 → A k = m k := fun k h1 h2 => by rw [← hA, am_up_k h2, fr1 k h1]
  have fjA : ∀ j, ¬ (2 ≤ j ∧ j ≤ 8) → A 0 j = m 0 j := fun j hj => by rw [← hA]; exact fj1 j hj
  have rA : (∀ j, (j < a ∨ a + 3 ≤ j) → A 3 j = m 3 j) ∧ A 3 a = v0 := by
    rw [← hA]; exact ⟨fun j hj => by rw [am_up_ni (by omega), fr1 3 (by omega)], am_up_at _ _ _ _⟩
  have TA : rl_TM f n A := rl_TM_cg (fjA 0 (by omega)) (frA 1 (by omega) (by omega)) hT
  have pA : A 0 2 = e0 := by rw [← hA]; exact q2
  clear hA fr1 fj1 q2 q3
  refine am_cq (mp_isNumber TA pA b0.2.1) ?_
  rintro z M2 ⟨fr2, fj2, (⟨e1, v1, q1', rfl, q2, q3⟩ | ⟨c, b, q1', rfl, q2, q3⟩)⟩
  rotate_left
  · refine ⟨fun h => absurd rfl h, fun _ => ⟨Or.inl rfl, fun k h1 h2 => by rw [fr2 k h1, frA k h1 h2], fun j hj => by rw [fr2 3 (by omega), rA.1 j hj], fun j hj => by rw [fj2 j hj, fjA j hj], Or.inr ⟨c, b, ?_, rfl, q2, q3⟩⟩⟩
    rw [eA]; unfold rl_f1; rw [q1']
  have b1 := rl_nm_l b0.2.1 q1'
  have eB : rl_f0 f n st K p = rl_f2 f n st K e1 v0 v1 := by rw [eA]; unfold rl_f1; rw [q1']
  refine ⟨fun _ => ⟨by omega, by omega, ?_⟩, fun h => absurd h (by decide)⟩
  rw [q3]
  generalize hB : am_up M2 3 (a + 1) v1 = B
  have frB : ∀ k, k ≠ 0 → k ≠ 3 → B k = m k := fun k h1 h2 => by rw [← hB, am_up_k h2, fr2 k h1, frA k h1 h2]
  have fjB : ∀ j, ¬ (2 ≤ j ∧ j ≤ 8) → B 0 j = m 0 j := fun j hj => by rw [← hB]; exact (fj2 j hj).trans (fjA j hj)
  have rB : (∀ j, (j < a ∨ a + 3 ≤ j) → B 3 j = m 3 j) ∧ B 3 a = v0 ∧ B 3 (a + 1) = v1 := by
    rw [← hB]; exact ⟨fun j hj => by rw [am_up_ni (by omega), fr2 3 (by omega), rA.1 j hj], by rw [am_up_ni (by omega), fr2 3 (by omega)]; exact rA.2, am_up_at _ _ _ _⟩
  have TB : rl_TM f n B := rl_TM_cg (fjB 0 (by omega)) (frB 1 (by omega) (by omega)) hT
  have pB : B 0 2 = e1 := by rw [← hB]; exact q2
  clear hB fr2 fj2 q2 q3
  refine am_cq (mp_isNumber TB pB b1.2.1) ?_
  rintro z M3 ⟨fr3, fj3, (⟨e2, v2, q1'', rfl, q2, q3⟩ | ⟨c, b, q1'', rfl, q2, q3⟩)⟩
  rotate_left
  · refine ⟨fun h => absurd rfl h, fun _ => ⟨Or.inl rfl, fun k h1 h2 => by rw [fr3 k h1, frB k h1 h2], fun j hj => by rw [fr3 3 (by omega), rB.1 j hj], fun j hj => by rw [fj3 j hj, fjB j hj], Or.inr ⟨c, b, ?_, rfl, q2, q3⟩⟩⟩
    rw [eB]; unfold rl_f2; rw [q1'']
  have b2 := rl_nm_l b1.2.1 q1''
  have eC : rl_f0 f n st K p = rl_f3 f n st K e2 v0 v1 v2 := by rw [eB]; unfold rl_f2; rw [q1'']
  refine ⟨fun _ => ⟨by omega, by omega, ?_⟩, fun h => absurd h (by decide)⟩
  rw [q3]
  generalize hC : am_up M3 3 (a + 2) v2 = C
  have frC : ∀ k, k ≠ 0 → k ≠ 3 → C k = m k := fun k h1 h2 => by rw [← hC, am_up_k h2, fr3 k h1, frB k h1 h2]
  have fjC : ∀ j, ¬ (2 ≤ j ∧ j ≤ 8) → C 0 j = m 0 j := fun j hj => by rw [← hC]; exact (fj3 j hj).trans (fjB j hj)
  have rC : (∀ j, (j < a ∨ a + 3 ≤ j) → C 3 j = m 3 j) ∧ C 3 a = v0 ∧ C 3 (a + 1) = v1 ∧ C 3 (a + 2) = v2 := by
    rw [← hC]; exact ⟨fun j hj => by rw [am_up_ni (by omega), fr3 3 (by omega), rB.1 j hj], by rw [am_up_ni (by omega), fr3 3 (by omega)]; exact rB.2.1, by rw [am_up_ni (by omega), fr3 3 (by omega)]; exact rB.2.2, am_up_at _ _ _ _⟩
  have TC : rl_TM f n C := rl_TM_cg (fjC 0 (by omega)) (frC 1 (by omega) (by omega)) hT
  have pC : C 0 2 = e2 := by rw [← hC]; exact q2
  clear hC fr3 fj3 q2 q3
  have hsk := rl_sk_bd (f := f) b2.2.1
  refine am_cq (mp_nextToken TC pC b2.2.1) ?_
  rintro z D ⟨frD, fjD, d3, hc⟩
  refine ⟨fun h59 => ⟨Or.inr rfl, fun k h1 h2 => by rw [frD k h1, frC k h1 h2], fun j hj => by rw [frD 3 (by omega), rC.1 j hj], fun j hj => by rw [fjD j (by omega), fjC j hj], Or.inl ⟨rl_sk f n e2 + 1, v0, v1, v2, ?_, rfl, ?_, ?_, ?_, ?_, ?_⟩⟩, fun h59 => am_cl mp_fails ⟨fun _ => ⟨Or.inl rfl, fun k h1 h2 => by rw [am_up_k h1, am_up_k h1, frD k h1, frC k h1 h2], fun j hj => ?_, fun j hj => by rw [am_up_ni (by omega), am_up_ni (by omega), fjD j (by omega), fjC j hj], Or.inr ⟨1, rl_sk f n e2, ?_, rfl, d3, rfl⟩⟩, fun h => absurd rfl h⟩⟩
  · rcases hc with ⟨_, q, _⟩ | ⟨g1, g2, g3, g4⟩ | ⟨_, _, q, _⟩
    · omega
    · rw [eC]; unfold rl_f3; rw [if_pos ⟨g1, by omega⟩]
    · omega
  · rcases hc with ⟨_, q, _⟩ | ⟨g1, g2, g3, g4⟩ | ⟨_, _, q, _⟩
    · omega
    · rw [g4]; omega
    · omega
  · rcases hc with ⟨_, q, _⟩ | ⟨g1, g2, g3, g4⟩ | ⟨_, _, q, _⟩
    · omega
    · omega
    · omega
  · rw [frD 3 (by omega)]; exact rC.2.1
  · rw [frD 3 (by omega)]; exact rC.2.2.1
  · rw [frD 3 (by omega)]; exact rC.2.2.2
  · show D 3 j = _; rw [frD 3 (by omega), rC.1 j hj]
  · rw [eC]; unfold rl_f3
    rcases hc with ⟨q, _, _⟩ | ⟨g1, g2, g3, g4⟩ | ⟨g1, g2, q, _⟩
    · rw [if_neg (by omega)]
    · rw [if_neg (fun hh => h59 (by rw [g3]; exact hh.2))]
    · rw [if_neg (fun hh => by have := hh.2; omega)]
theorem mp_areThree_readRoad {f : Nat → Int} {n p a K : Nat} {st : Nat → Int} {x : Int} (hx : x = a) (hT : rl_TM f n m) (hp : m 0 2 = p) (hpn : p ≤ n) (ha : a + 2 < 18) : am_Mt l g 99 [.inr (.inl 0), .inr (.inl 4), .inl x, .inl (am_least (K * 3 + 0)), .inl (am_most (K * 3 + 0)), .inl (am_least (K * 3 + 1)), .inl (am_most (K * 3 + 1)), .inl (am_least (K * 3 + 2)), .inl (am_most (K * 3 + 2))] m (rl_Q3 f n st K p 4 a m) := by
  subst hx
  have k1 : ((a : Int) + 1).toNat = a + 1 := by omega
  have k2 : ((a : Int) + 2).toNat = a + 2 := by omega
  refine fm_X10_areThree_readRoad (am_cq (mp_isNumber hT hp hpn) ?_)
  rw [Int.toNat_natCast, k1, k2]
  rintro z M1 ⟨fr1, fj1, (⟨e0, v0, q1, rfl, q2, q3⟩ | ⟨c, b, q1, rfl, q2, q3⟩)⟩
  rotate_left
  · refine ⟨fun h => absurd rfl h, fun _ => ⟨Or.inl rfl, fun k h1 h2 => fr1 k h1, fun j _ => by rw [fr1 4 (by omega)], fj1, Or.inr ⟨c, b, ?_, rfl, q2, q3⟩⟩⟩
    unfold rl_f0; rw [q1]
  have b0 := rl_nm_l hpn q1
  have eA : rl_f0 f n st K p = rl_f1 f n st K e0 v0 := by unfold rl_f0; rw [q1]
  refine ⟨fun _ => ⟨by omega, ?_⟩, fun h => absurd h (by decide)⟩
  rw [q3]
  generalize hA : am_up M1 4 a v0 = A
  have frA : ∀ k, k ≠ 0 → k ≠ 4 → A k = m k := fun k h1 h2 => by rw [← hA, am_up_k h2, fr1 k h1]
  have fjA : ∀ j, ¬ (2 ≤ j ∧ j ≤ 8) → A 0 j = m 0 j := fun j hj => by rw [← hA]; exact fj1 j hj
  have rA : (∀ j, (j < a ∨ a + 3 ≤ j) → A 4 j = m 4 j) ∧ A 4 a = v0 := by
    rw [← hA]; exact ⟨fun j hj => by rw [am_up_ni (by omega), fr1 4 (by omega)], am_up_at _ _ _ _⟩
  have TA : rl_TM f n A := rl_TM_cg (fjA 0 (by omega)) (frA 1 (by omega) (by omega)) hT
  have pA : A 0 2 = e0 := by rw [← hA]; exact q2
  clear hA fr1 fj1 q2 q3
  refine am_cq (mp_isNumber TA pA b0.2.1) ?_
  rintro z M2 ⟨fr2, fj2, (⟨e1, v1, q1', rfl, q2, q3⟩ | ⟨c, b, q1', rfl, q2, q3⟩)⟩
  rotate_left
  · refine ⟨fun h => absurd rfl h, fun _ => ⟨Or.inl rfl, fun k h1 h2 => by rw [fr2 k h1, frA k h1 h2], fun j hj => by rw [fr2 4 (by omega), rA.1 j hj], fun j hj => by rw [fj2 j hj, fjA j hj], Or.inr ⟨c, b, ?_, rfl, q2, q3⟩⟩⟩
    rw [eA]; unfold rl_f1; rw [q1']
  have b1 := rl_nm_l b0.2.1 q1'
  have eB : rl_f0 f n st K p = rl_f2 f n st K e1 v0 v1 := by rw [eA]; unfold rl_f1; rw [q1']
  refine ⟨fun _ => ⟨by omega, by omega, ?_⟩, fun h => absurd h (by decide)⟩
  rw [q3]
  generalize hB : am_up M2 4 (a + 1) v1 = B
  have frB : ∀ k, k ≠ 0 → k ≠ 4 → B k = m k := fun k h1 h2 => by rw [← hB, am_up_k h2, fr2 k h1, frA k h1 h2]
  have fjB : ∀ j, ¬ (2 ≤ j ∧ j ≤ 8) → B 0 j = m 0 j := fun j hj => by rw [← hB]; exact (fj2 j hj).trans (fjA j hj)
  have rB : (∀ j, (j < a ∨ a + 3 ≤ j) → B 4 j = m 4 j) ∧ B 4 a = v0 ∧ B 4 (a + 1) = v1 := by
    rw [← hB]; exact ⟨fun j hj => by rw [am_up_ni (by omega), fr2 4 (by omega), rA.1 j hj], by rw [am_up_ni (by omega), fr2 4 (by omega)]; exact rA.2, am_up_at _ _ _ _⟩
  have TB : rl_TM f n B := rl_TM_cg (fjB 0 (by omega)) (frB 1 (by omega) (by omega)) hT
  have pB : B 0 2 = e1 := by rw [← hB]; exact q2
  clear hB fr2 fj2 q2 q3
  refine am_cq (mp_isNumber TB pB b1.2.1) ?_
  rintro z M3 ⟨fr3, fj3, (⟨e2, v2, q1'', rfl, q2, q3⟩ | ⟨c, b, q1'', rfl, q2, q3⟩)⟩
  rotate_left
  · refine ⟨fun h => absurd rfl h, fun _ => ⟨Or.inl rfl, fun k h1 h2 => by rw [fr3 k h1, frB k h1 h2], fun j hj => by rw [fr3 4 (by omega), rB.1 j hj], fun j hj => by rw [fj3 j hj, fjB j hj], Or.inr ⟨c, b, ?_, rfl, q2, q3⟩⟩⟩
    rw [eB]; unfold rl_f2; rw [q1'']
  have b2 := rl_nm_l b1.2.1 q1''
  have eC : rl_f0 f n st K p = rl_f3 f n st K e2 v0 v1 v2 := by rw [eB]; unfold rl_f2; rw [q1'']
  refine ⟨fun _ => ⟨by omega, by omega, ?_⟩, fun h => absurd h (by decide)⟩
  rw [q3]
  generalize hC : am_up M3 4 (a + 2) v2 = C
  have frC : ∀ k, k ≠ 0 → k ≠ 4 → C k = m k := fun k h1 h2 => by rw [← hC, am_up_k h2, fr3 k h1, frB k h1 h2]
  have fjC : ∀ j, ¬ (2 ≤ j ∧ j ≤ 8) → C 0 j = m 0 j := fun j hj => by rw [← hC]; exact (fj3 j hj).trans (fjB j hj)
  have rC : (∀ j, (j < a ∨ a + 3 ≤ j) → C 4 j = m 4 j) ∧ C 4 a = v0 ∧ C 4 (a + 1) = v1 ∧ C 4 (a + 2) = v2 := by
    rw [← hC]; exact ⟨fun j hj => by rw [am_up_ni (by omega), fr3 4 (by omega), rB.1 j hj], by rw [am_up_ni (by omega), fr3 4 (by omega)]; exact rB.2.1, by rw [am_up_ni (by omega), fr3 4 (by omega)]; exact rB.2.2, am_up_at _ _ _ _⟩
  have TC : rl_TM f n C := rl_TM_cg (fjC 0 (by omega)) (frC 1 (by omega) (by omega)) hT
  have pC : C 0 2 = e2 := by rw [← hC]; exact q2
  clear hC fr3 fj3 q2 q3
  have hsk := rl_sk_bd (f := f) b2.2.1
  refine am_cq (mp_nextToken TC pC b2.2.1) ?_
  rintro z D ⟨frD, fjD, d3, hc⟩
  refine ⟨fun h59 => ⟨Or.inr rfl, fun k h1 h2 => by rw [frD k h1, frC k h1 h2], fun j hj => by rw [frD 4 (by omega), rC.1 j hj], fun j hj => by rw [fjD j (by omega), fjC j hj], Or.inl ⟨rl_sk f n e2 + 1, v0, v1, v2, ?_, rfl, ?_, ?_, ?_, ?_, ?_⟩⟩, fun h59 => am_cl mp_fails ⟨fun _ => ⟨Or.inl rfl, fun k h1 h2 => by rw [am_up_k h1, am_up_k h1, frD k h1, frC k h1 h2], fun j hj => ?_, fun j hj => by rw [am_up_ni (by omega), am_up_ni (by omega), fjD j (by omega), fjC j hj], Or.inr ⟨1, rl_sk f n e2, ?_, rfl, d3, rfl⟩⟩, fun h => absurd rfl h⟩⟩
  · rcases hc with ⟨_, q, _⟩ | ⟨g1, g2, g3, g4⟩ | ⟨_, _, q, _⟩
    · omega
    · rw [eC]; unfold rl_f3; rw [if_pos ⟨g1, by omega⟩]
    · omega
  · rcases hc with ⟨_, q, _⟩ | ⟨g1, g2, g3, g4⟩ | ⟨_, _, q, _⟩
    · omega
    · rw [g4]; omega
    · omega
  · rcases hc with ⟨_, q, _⟩ | ⟨g1, g2, g3, g4⟩ | ⟨_, _, q, _⟩
    · omega
    · omega
    · omega
  · rw [frD 4 (by omega)]; exact rC.2.1
  · rw [frD 4 (by omega)]; exact rC.2.2.1
  · rw [frD 4 (by omega)]; exact rC.2.2.2
  · show D 4 j = _; rw [frD 4 (by omega), rC.1 j hj]
  · rw [eC]; unfold rl_f3
    rcases hc with ⟨q, _, _⟩ | ⟨g1, g2, g3, g4⟩ | ⟨g1, g2, q, _⟩
    · rw [if_neg (by omega)]
    · rw [if_neg (fun hh => h59 (by rw [g3]; exact hh.2))]
    · rw [if_neg (fun hh => by have := hh.2; omega)]
end MN
