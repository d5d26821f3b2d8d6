section MT
variable {l : Launch} {g : am_G} {mem m : am_Mem} {t : Int}
/-- the reference takes over what it has read -/
def rl_tA (M : am_Mem) : am_Mem := am_up (am_up (am_up (am_up (am_up M 0 0 0) 0 7 (-1)) 0 15 (M 0 9)) 0 16 (M 0 10)) 0 17 (M 0 11)
def rl_TB (st : Nat → Int) (A N : am_Mem) : Prop := (∀ k, ¬ (5 ≤ k ∧ k ≤ 8) → N k = A k) ∧ (∀ i, i < 3 → N 5 i = st (1 + i)) ∧ (∀ c : Nat, (c : Int) < st 4 → N 6 (3 * c) = st (6 + 3 * c) ∧ N 6 (3 * c + 1) = st (7 + 3 * c) ∧ N 6 (3 * c + 2) = st (8 + 3 * c)) ∧ ∀ r : Nat, (r : Int) < st 5 → N 7 (3 * r) = st (18 + 3 * r) ∧ N 7 (3 * r + 1) = st (19 + 3 * r) ∧ N 7 (3 * r + 2) = st (20 + 3 * r)
theorem rl_TB_8 {st : Nat → Int} {A N N' : am_Mem} (h : ∀ k, k ≠ 8 → N' k = N k) (hT : rl_TB st A N) : rl_TB st A N' := by
  obtain ⟨a, b, c, d⟩ := hT
  refine ⟨fun k hk => by rw [h k (by omega), a k hk], ?_, ?_, ?_⟩
  · rw [h 5 (by omega)]; exact b
  · rw [h 6 (by omega)]; exact c
  · rw [h 7 (by omega)]; exact d
def rl_J1 (st : Nat → Int) (A : am_Mem) : Nat → Int → Int → am_Mem → Prop := fun w _ v2 N => (∀ k, k ≠ 5 → N k = A k) ∧ ∃ j : Nat, v2 = j ∧ j ≤ 3 ∧ (∀ i, i < j → N 5 i = st (1 + i)) ∧ w = 60 + (3 - j)
def rl_J2 (st : Nat → Int) (A : am_Mem) : Nat → Int → Int → am_Mem → Prop := fun w _ v2 N => rl_TB st A N ∧ ∃ j : Nat, v2 = j ∧ j ≤ 17 ∧ (∀ i, i < j → N 8 i = 0) ∧ w = 30 + (17 - j)
def rl_J3 (st : Nat → Int) (A : am_Mem) : Nat → Int → Int → am_Mem → Prop := fun w _ v2 N => rl_TB st A N ∧ N 8 0 = st 1 ∧ (∀ i, 1 ≤ i → i < 5 → N 8 i = 0) ∧ ∃ j : Nat, v2 = j ∧ (j : Int) ≤ st 4 ∧ (∀ c, c < j → N 8 (5 + c) = st (6 + 3 * c)) ∧ w = 4 - j
def rl_QTr (st : Nat → Int) (A : am_Mem) : am_Po := fun z m2 => (∀ k, k ≠ 0 → ¬ (5 ≤ k ∧ k ≤ 8) → k ≠ 13 → m2 k = A k) ∧ (∀ j, j ≠ 24 → j ≠ 29 → j ≠ 31 → m2 0 j = A 0 j) ∧ (m2 0 24 = 0 ∧ m2 0 29 = 0 ∧ m2 0 31 = 0 ∧ m2 13 0 = 0 ∧ m2 13 1 = 0) ∧ ((∀ i, i < 3 → m2 5 i = st (1 + i)) ∧ (∀ c : Nat, (c : Int) < st 4 → m2 6 (3 * c) = st (6 + 3 * c) ∧ m2 6 (3 * c + 1) = st (7 + 3 * c) ∧ m2 6 (3 * c + 2) = st (8 + 3 * c)) ∧ ∀ r : Nat, (r : Int) < st 5 → m2 7 (3 * r) = st (18 + 3 * r) ∧ m2 7 (3 * r + 1) = st (19 + 3 * r) ∧ m2 7 (3 * r + 2) = st (20 + 3 * r)) ∧ (m2 8 0 = st 1 ∧ (∀ i, 1 ≤ i → i < 5 → m2 8 i = 0) ∧ ∀ c : Nat, (c : Int) < st 4 → m2 8 (5 + c) = st (6 + 3 * c) ∧ m2 8 (9 + c) = st (7 + 3 * c) ∧ m2 8 (13 + c) = 0) ∧ z = rl_mam m2
/-- the part of trip behind a good text -/
theorem mp_trip {f : Nat → Int} {n : Nat} {Q : am_Po} (hT : rl_TM f n m) (hok : ∀ st M, rl_run f n 200 (fun _ => 0) 0 = .inl st → rl_SO st → rl_QR f n m 1 M → ∀ z m2, rl_QTr st (rl_tA M) z m2 → Q z m2) (hno : ∀ c a M, rl_run f n 200 (fun _ => 0) 0 = .inr (c, a) → rl_QR f n m 0 M → M 0 7 = (a : Nat) → M 0 8 = c → (-2147483648 ≤ -10 - M 0 8 ∧ -10 - M 0 8 ≤ 2147483647) ∧ Q (-10 - M 0 8) (am_up M 0 0 0)) : am_Mt l g 106 [.inr (.inl 0)] m Q := by
  refine fm_X10_trip (fun w v1 v2 N => ∃ st M, rl_run f n 200 (fun _ => 0) 0 = .inl st ∧ rl_SO st ∧ rl_QR f n m 1 M ∧ rl_DM st M ∧ rl_J1 st (rl_tA M) w v1 v2 N) (fun w v1 v2 N => ∃ st M, rl_run f n 200 (fun _ => 0) 0 = .inl st ∧ rl_SO st ∧ rl_QR f n m 1 M ∧ rl_DM st M ∧ rl_J2 st (rl_tA M) w v1 v2 N) (fun w v1 v2 N => ∃ st M, rl_run f n 200 (fun _ => 0) 0 = .inl st ∧ rl_SO st ∧ rl_QR f n m 1 M ∧ rl_DM st M ∧ rl_J3 st (rl_tA M) w v1 v2 N) (am_cq (mp_isRead hT) ?_) ?_ ?_ ?_
  · intro z M hQ
    obtain ⟨fr, fj, hc⟩ := id hQ
    rcases hc with ⟨st, h1, rfl, hD, hS⟩ | ⟨c, a, h1, rfl, h2, h3⟩
    · refine ⟨fun _ => ⟨by rw [hD.1]; exact hS.1, 63, rfl, st, M, h1, hS, hQ, hD, fun _ _ => rfl, 0, rfl, by omega, fun i hi => by omega, rfl⟩, fun h => absurd h (by decide)⟩
    · exact ⟨fun h => absurd rfl h, fun _ => hno c a M h1 hQ h2 h3⟩
  · rintro w v1 v2 N ⟨st, M, h1, hS, hQ, hD, hfr, j, rfl, hj, hv, rfl⟩
    have e15 : N 0 15 = st 0 := by rw [hfr 0 (by omega)]; exact hD.1
    refine ⟨fun h => am_cl (mp_bring_readCord_cord (i := 0) (j := 0) (n := 12) rfl rfl rfl (by omega) (by omega)) (am_cl (mp_bring_readRoad_road (i := 0) (j := 0) (n := 18) rfl rfl rfl (by omega) (by omega)) ⟨30 + (17 - 0), by omega, rfl, st, M, h1, hS, hQ, hD, ⟨fun k hk => ?_, fun i hi => ?_, fun c hc => ?_, fun r hr => ?_⟩, 0, rfl, by omega, fun i hi => by omega, rfl⟩), fun h => ⟨fun h0 => ⟨by omega, by omega, 60 + (3 - (j + 1)), by omega, rfl, st, M, h1, hS, hQ, hD, fun k hk => by rw [am_up_k hk, hfr k hk], j + 1, by omega, by omega, fun i hi => ?_, rfl⟩, fun h0 => ⟨by omega, by omega, by omega, 60 + (3 - (j + 1)), by omega, rfl, st, M, h1, hS, hQ, hD, fun k hk => by rw [am_up_k hk, hfr k hk], j + 1, by omega, by omega, fun i hi => ?_, rfl⟩⟩⟩
    · rw [am_cp_k (by omega), am_cp_k (by omega), hfr k (by omega)]
    · show N 5 i = _; exact hv i (by omega)
    · have s4 := hS.2.1
      have g1 : ∀ i, i < 12 → am_cp (am_cp N 3 0 6 0 12) 4 0 7 0 18 6 i = M 3 i := fun i hi => by
        rw [am_cp_k (by omega), am_cp_in (by omega) (by omega), show 0 + (i - 0) = i by omega, hfr 3 (by omega)]; rfl
      rw [g1 _ (by omega), g1 _ (by omega), g1 _ (by omega)]
      exact hD.2.2.2.2.1 c hc
    · have s5 := hS.2.2.1
      have g1 : ∀ i, i < 18 → am_cp (am_cp N 3 0 6 0 12) 4 0 7 0 18 7 i = M 4 i := fun i hi => by
        rw [am_cp_in (by omega) (by omega), show 0 + (i - 0) = i by omega, am_cp_k (by omega), hfr 4 (by omega)]; rfl
      rw [g1 _ (by omega), g1 _ (by omega), g1 _ (by omega)]
      exact hD.2.2.2.2.2 r hr
    · rw [Int.toNat_natCast]
      by_cases e : i = j
      · subst e
        rw [am_up_at]
        obtain ⟨z1, z2, z3, -⟩ := hS.2.2.2.1 (by omega)
        have : i = 0 ∨ i = 1 ∨ i = 2 := by omega
        rcases this with rfl | rfl | rfl
        · exact z1.symm
        · exact z2.symm
        · exact z3.symm
      · rw [am_up_ni e]; exact hv i (by omega)
    · rw [Int.toNat_natCast]
      by_cases e : i = j
      · subst e
        rw [am_up_at, hfr 2 (by omega)]
        obtain ⟨z1, z2, z3⟩ := hD.2.2.2.1 (by omega)
        have : i = 0 ∨ i = 1 ∨ i = 2 := by omega
        rcases this with rfl | rfl | rfl
        · exact z1
        · exact z2
        · exact z3
      · rw [am_up_ni e]; exact hv i (by omega)
  · rintro w v1 v2 N ⟨st, M, h1, hS, hQ, hD, hTB, j, rfl, hj, hv, rfl⟩
    rw [Int.toNat_natCast]
    refine ⟨fun h => ⟨by omega, by omega, 4 - 0, by omega, rfl, st, M, h1, hS, hQ, hD, rl_TB_8 (fun k hk => am_up_k hk) hTB, ?_, fun i a1 a2 => ?_, 0, rfl, hS.2.1.1, fun c hc => by omega, rfl⟩, fun h => ⟨by omega, by omega, 30 + (17 - (j + 1)), by omega, rfl, st, M, h1, hS, hQ, hD, rl_TB_8 (fun k hk => am_up_k hk) hTB, j + 1, by omega, by omega, fun i hi => ?_, rfl⟩⟩
    · rw [am_up_at]; exact hTB.2.1 0 (by omega)
    · rw [am_up_ni (by omega)]; exact hv i (by omega)
    · by_cases e : i = j
      · subst e; rw [am_up_at]
      · rw [am_up_ni e]; exact hv i (by omega)
  · rintro w v1 v2 N ⟨st, M, h1, hS, hQ, hD, hTB, n0, nz, j, rfl, hj, hv, rfl⟩
    have s4 := hS.2.1
    have s5 := hS.2.2.1
    have e16 : N 0 16 = st 4 := by rw [hTB.1 0 (by omega)]; exact hD.2.1
    have e17 : N 0 17 = st 5 := by rw [hTB.1 0 (by omega)]; exact hD.2.2.1
    rw [e16]
    refine ⟨fun h => am_cl (mp_pullAll_n (mem := N) (by omega) (by omega)) ⟨⟨by omega, Or.inl rfl⟩, ⟨by omega, Or.inl rfl⟩, ?_⟩, fun h => ⟨by omega, by omega, by omega, by omega, by omega, 4 - (j + 1), by omega, rfl, st, M, h1, hS, hQ, hD, rl_TB_8 (fun k hk => am_up_k hk) hTB, ?_, fun i a1 a2 => ?_, j + 1, by omega, by omega, fun c hc => ?_, rfl⟩⟩
    · rw [e16]
      have ej : (j : Int) = st 4 := by omega
      obtain ⟨t1, t2, t3, t4⟩ := hTB
      obtain ⟨s0, -, -, sz, sl, sc, sr⟩ := hS
      have e15 : N 0 15 = st 0 := by rw [t1 0 (by omega)]; exact hD.1
      generalize hP : am_st N 8 (rw_pull (st 4).toNat (fun c => N 6 (3 * c + 1)) (N 8)) = P
      have Pk : ∀ k, k ≠ 8 → P k = N k := fun k hk => by rw [← hP]; exact am_st_ne hk
      have P8 : P 8 = rw_pull (st 4).toNat (fun c => N 6 (3 * c + 1)) (N 8) := by rw [← hP]; exact am_st_at _ _ _
      clear hP
      generalize hB : am_up (am_up (am_up (am_up (am_up P 0 29 0) 0 31 0) 13 0 0) 13 1 0) 0 24 0 = B
      have Bk : ∀ k, k ≠ 0 → k ≠ 13 → B k = P k := fun k k1 k2 => by rw [← hB, am_up_k k1, am_up_k k2, am_up_k k2, am_up_k k1, am_up_k k1]
      have Bj : ∀ j, j ≠ 24 → j ≠ 29 → j ≠ 31 → B 0 j = P 0 j := fun j a1 a2 a3 => by
        rw [← hB, am_up_ni a1]
        show am_up (am_up P 0 29 0) 0 31 0 0 j = _
        rw [am_up_ni a3, am_up_ni a2]
      have Bz : B 0 24 = 0 ∧ B 0 29 = 0 ∧ B 0 31 = 0 ∧ B 13 0 = 0 ∧ B 13 1 = 0 := by rw [← hB]; exact ⟨rfl, rfl, rfl, rfl, rfl⟩
      clear hB
      have b5 : B 5 = N 5 := by rw [Bk 5 (by omega) (by omega), Pk 5 (by omega)]
      have b6 : B 6 = N 6 := by rw [Bk 6 (by omega) (by omega), Pk 6 (by omega)]
      have b7 : B 7 = N 7 := by rw [Bk 7 (by omega) (by omega), Pk 7 (by omega)]
      have b8 : B 8 = rw_pull (st 4).toNat (fun c => N 6 (3 * c + 1)) (N 8) := by rw [Bk 8 (by omega) (by omega), P8]
      have b0 : ∀ j, j ≠ 24 → j ≠ 29 → j ≠ 31 → B 0 j = N 0 j := fun j a1 a2 a3 => by rw [Bj j a1 a2 a3, Pk 0 (by omega)]
      have c16 : B 0 16 = st 4 := by rw [b0 16 (by omega) (by omega) (by omega), e16]
      have c17 : B 0 17 = st 5 := by rw [b0 17 (by omega) (by omega) (by omega), e17]
      refine am_cl (mp_allMiles ⟨?_, ?_, ?_, ?_, ?_, fun c hc => ?_, fun r hr => ?_⟩) (hok st M h1 ⟨s0, s4, s5, sz, sl, sc, sr⟩ hQ _ _ ⟨fun k k0 k1 k2 => ?_, fun j a1 a2 a3 => ?_, Bz, ⟨?_, ?_, ?_⟩, ⟨?_, fun i i1 i2 => ?_, fun c hc => ?_⟩, rfl⟩)
      · rw [b0 15 (by omega) (by omega) (by omega), e15]; exact s0
      · rw [b5, t2 1 (by omega)]; exact sl.2.1
      · rw [b5, t2 2 (by omega)]; exact sl.2.2
      · rw [c16]; exact s4
      · rw [c17]; exact s5
      · rw [c16] at hc
        rw [b6, (t3 c hc).2.1, (t3 c hc).2.2]; exact ⟨(sc c hc).2.1, (sc c hc).2.2⟩
      · rw [c17] at hr
        rw [b7, (t4 r hr).1, (t4 r hr).2.1, (t4 r hr).2.2]; exact sr r hr
      · rw [Bk k k0 k2, Pk k (by omega), t1 k k1]
      · rw [b0 j a1 a2 a3, t1 0 (by omega)]
      · rw [b5]; exact t2
      · rw [b6]; exact t3
      · rw [b7]; exact t4
      · rw [b8]; exact n0
      · rw [b8]; unfold rw_pull; rw [if_neg (by omega), if_neg (by omega)]; exact nz i i1 i2
      · obtain ⟨u1, u2, u3⟩ := rl_pl_m (tt := fun c => N 6 (3 * c + 1)) (w := N 8) s4.2 hc
        rw [b8, u1, u2, u3]
        exact ⟨hv c (by omega), (t3 c hc).2.1, rfl⟩
    · rw [rl_k5, am_up_ni (by omega)]; exact n0
    · rw [rl_k5, am_up_ni (by omega)]; exact nz i a1 a2
    · rw [rl_k5, rl_k0]
      by_cases e : c = j
      · subst e; rw [am_up_at]; exact (hTB.2.2.1 c h).1
      · rw [am_up_ni (by omega)]; exact hv c (by omega)
end MT
