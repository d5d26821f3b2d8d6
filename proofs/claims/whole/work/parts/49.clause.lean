section RC
variable {l : Launch} {g : am_G} {mem m : am_Mem} {t : Int}
def rl_kd (x : Int) : Int := if x = 99 then 1 else if x = 108 then 0 else if x = 114 then 2 else -1
def rl_wft (st : Nat → Int) (k : Int) : Int := if k = -1 then 1 else if ¬ k = 0 ∧ st 0 = 0 then 1 else if (k = 0 ∧ ¬ st 0 = 0) ∨ (k = 1 ∧ 4 ≤ st 4) ∨ (k = 2 ∧ 6 ≤ st 5) then 3 else 0
def rl_tk (st : Nat → Int) (k : Nat) (v0 v1 v2 : Int) : Nat → Int := fun j =>
  if k = 0 then (if j = 0 then 1 else if j = 1 then v0 else if j = 2 then v1 else if j = 3 then v2 else st j)
  else if k = 1 then (if j = 4 then st 4 + 1 else if j = 6 + 3 * (st 4).toNat then v0 else if j = 7 + 3 * (st 4).toNat then v1 else if j = 8 + 3 * (st 4).toNat then v2 else st j)
  else (if j = 5 then st 5 + 1 else if j = 18 + 3 * (st 5).toNat then v0 else if j = 19 + 3 * (st 5).toNat then v1 else if j = 20 + 3 * (st 5).toNat then v2 else st j)
def rl_f3 (f : Nat → Int) (n : Nat) (st : Nat → Int) (K e : Nat) (v0 v1 v2 : Int) : (Nat × (Nat → Int)) ⊕ (Int × Nat) := if rl_sk f n e < n ∧ f (rl_sk f n e) = 59 then .inl (rl_sk f n e + 1, rl_tk st K v0 v1 v2) else .inr (1, rl_sk f n e)
def rl_f2 (f : Nat → Int) (n : Nat) (st : Nat → Int) (K e : Nat) (v0 v1 : Int) : (Nat × (Nat → Int)) ⊕ (Int × Nat) := match rl_nm f n (am_least (K * 3 + 2)) (am_most (K * 3 + 2)) e with | .inr x => .inr x | .inl y => rl_f3 f n st K y.1 v0 v1 y.2
def rl_f1 (f : Nat → Int) (n : Nat) (st : Nat → Int) (K e : Nat) (v0 : Int) : (Nat × (Nat → Int)) ⊕ (Int × Nat) := match rl_nm f n (am_least (K * 3 + 1)) (am_most (K * 3 + 1)) e with | .inr x => .inr x | .inl y => rl_f2 f n st K y.1 v0 y.2
def rl_f0 (f : Nat → Int) (n : Nat) (st : Nat → Int) (K e : Nat) : (Nat × (Nat → Int)) ⊕ (Int × Nat) := match rl_nm f n (am_least (K * 3 + 0)) (am_most (K * 3 + 0)) e with | .inr x => .inr x | .inl y => rl_f1 f n st K y.1 y.2
def rl_cz (f : Nat → Int) (n : Nat) (st : Nat → Int) (p : Nat) : (Nat × (Nat → Int)) ⊕ (Int × Nat) := if ¬ rl_wft st (rl_kd (f p)) = 0 then .inr (rl_wft st (rl_kd (f p)), p) else rl_f0 f n st (rl_kd (f p)).toNat (p + 1)
theorem rl_nm_l {f : Nat → Int} {n p e : Nat} {lo hi v : Int} (hp : p ≤ n) (h : rl_nm f n lo hi p = .inl (e, v)) : p ≤ e ∧ e ≤ n ∧ lo ≤ v ∧ v ≤ hi := by
  have hb := rl_sk_bd (f := f) hp
  unfold rl_nm rl_nq at h
  split at h
  · split at h
    · rename_i h1 h2
      have hs := rl_sc_bd (f := f) (c := 0) (v := 0) (show rl_sk f n p ≤ n by omega)
      have := Sum.inl.inj h
      rw [this] at h2 hs
      exact ⟨by omega, hs.2, h2.2⟩
    · exact absurd h (by simp)
  · exact absurd h (by simp)
theorem rl_nm_r {f : Nat → Int} {n p a : Nat} {lo hi c : Int} (hp : p ≤ n) (h : rl_nm f n lo hi p = .inr (c, a)) : a = rl_sk f n p ∧ a ≤ n ∧ (c = 1 ∨ c = 2) := by
  have hb := rl_sk_bd (f := f) hp
  unfold rl_nm rl_nq at h
  split at h
  · split at h
    · exact absurd h (by simp)
    · have := Sum.inr.inj h
      have h1 := congrArg Prod.fst this
      have h2 := congrArg Prod.snd this
      simp only at h1 h2
      omega
  · have := Sum.inr.inj h
    have h1 := congrArg Prod.fst this
    have h2 := congrArg Prod.snd this
    simp only at h1 h2
    omega
/-- the class's draft -/
def rl_DR (st : Nat → Int) (m : am_Mem) : Prop := m 21 0 = st 0 ∧ m 21 1 = st 1 ∧ m 21 2 = st 2 ∧ m 21 3 = st 3 ∧ m 21 4 = st 4 ∧ m 21 5 = st 5 ∧ (∀ c : Nat, (c : Int) < st 4 → m 22 c = st (6 + 3 * c) ∧ m 23 c = st (7 + 3 * c) ∧ m 24 c = st (8 + 3 * c)) ∧ ∀ r : Nat, (r : Int) < st 5 → m 25 r = st (18 + 3 * r) ∧ m 26 r = st (19 + 3 * r) ∧ m 27 r = st (20 + 3 * r)
def rl_SO (st : Nat → Int) : Prop := (st 0 = 0 ∨ st 0 = 1) ∧ (0 ≤ st 4 ∧ st 4 ≤ 4) ∧ (0 ≤ st 5 ∧ st 5 ≤ 6) ∧ (st 0 = 0 → st 1 = 0 ∧ st 2 = 0 ∧ st 3 = 0 ∧ st 4 = 0 ∧ st 5 = 0) ∧ ((0 ≤ st 1 ∧ st 1 ≤ 99) ∧ (0 ≤ st 2 ∧ st 2 ≤ 40) ∧ (0 ≤ st 3 ∧ st 3 ≤ 999)) ∧ (∀ c : Nat, (c : Int) < st 4 → (0 ≤ st (6 + 3 * c) ∧ st (6 + 3 * c) ≤ 3) ∧ (0 ≤ st (7 + 3 * c) ∧ st (7 + 3 * c) ≤ 99) ∧ (0 ≤ st (8 + 3 * c) ∧ st (8 + 3 * c) ≤ 9)) ∧ ∀ r : Nat, (r : Int) < st 5 → (1 ≤ st (18 + 3 * r) ∧ st (18 + 3 * r) ≤ 20) ∧ (10 ≤ st (19 + 3 * r) ∧ st (19 + 3 * r) ≤ 70) ∧ (0 ≤ st (20 + 3 * r) ∧ st (20 + 3 * r) ≤ 30)
theorem rl_kd_in {x : Int} (h : ¬ rl_kd x = -1) : rl_kd x = ((rl_kd x).toNat : Int) ∧ (rl_kd x).toNat < 3 := by
  unfold rl_kd at *
  split
  · exact ⟨rfl, by decide⟩
  · split
    · exact ⟨rfl, by decide⟩
    · split
      · exact ⟨rfl, by decide⟩
      · rename_i a b c; rw [if_neg a, if_neg b, if_neg c] at h; exact absurd rfl h
theorem sp_kind (x : Int) : am_Mt l g 34 [.inl x] m (am_vq (rl_kd x) m) := by
  unfold rl_kd
  refine fm_X5_kindOf ⟨fun h => ?_, fun h => ⟨fun h2 => ?_, fun h2 => ⟨fun h3 => ?_, fun h3 => ?_⟩⟩⟩
  · rw [if_pos h]; exact ⟨rfl, rfl⟩
  · rw [if_neg h, if_pos h2]; exact ⟨rfl, rfl⟩
  · rw [if_neg h, if_neg h2, if_pos h3]; exact ⟨rfl, rfl⟩
  · rw [if_neg h, if_neg h2, if_neg h3]; exact ⟨rfl, rfl⟩
theorem sp_wordFault {st : Nat → Int} {k : Int} (hk : k = -1 ∨ k = 0 ∨ k = 1 ∨ k = 2) (hD : rl_DR st m) : am_Mt l g 32 [.inr (.inl 20), .inl k] m (am_vq (rl_wft st k) m) := by
  obtain ⟨d0, d1, d2, d3, d4, d5, -⟩ := hD
  refine fm_X5_wordFault ?_
  unfold rl_wft
  rw [d0, d4, d5]
  rcases hk with rfl | rfl | rfl | rfl
  · exact ⟨fun _ => ⟨rfl, rfl⟩, fun h => absurd rfl h⟩
  · refine ⟨fun h => absurd h (by decide), fun _ => ⟨fun _ => ⟨fun h => absurd rfl h, fun _ => ⟨fun h => ⟨?_, rfl⟩, fun h => ⟨?_, rfl⟩⟩⟩, fun h => absurd rfl h⟩⟩
    · rw [if_neg (by decide), if_neg (by omega), if_neg (by omega)]
    · rw [if_neg (by decide), if_neg (by omega), if_pos (by omega)]
  · refine ⟨fun h => absurd h (by decide), fun _ => ⟨fun h => absurd h (by decide), fun _ => ⟨fun h0 => ⟨fun _ => ⟨fun h => absurd rfl h, fun _ => ⟨fun h => ⟨fun _ => ⟨?_, rfl⟩, fun h => absurd rfl h⟩, fun h => ⟨fun h => absurd h (by decide), fun _ => ⟨?_, rfl⟩⟩⟩⟩, fun h => absurd h (by decide)⟩, fun h0 => ⟨?_, rfl⟩⟩⟩⟩
    · rw [if_neg (by decide), if_neg (by omega), if_neg (by omega)]
    · rw [if_neg (by decide), if_neg (by omega), if_pos (by omega)]
    · rw [if_neg (by decide), if_pos (by omega)]
  · refine ⟨fun h => absurd h (by decide), fun _ => ⟨fun h => absurd h (by decide), fun _ => ⟨fun h0 => ⟨fun _ => ⟨fun _ => ⟨fun h => ⟨fun _ => ⟨?_, rfl⟩, fun h => absurd rfl h⟩, fun h => ⟨fun h => absurd h (by decide), fun _ => ⟨?_, rfl⟩⟩⟩, fun h => absurd h (by decide)⟩, fun h => absurd h (by decide)⟩, fun h0 => ⟨?_, rfl⟩⟩⟩⟩
    · rw [if_neg (by decide), if_neg (by omega), if_neg (by omega)]
    · rw [if_neg (by decide), if_neg (by omega), if_pos (by omega)]
    · rw [if_neg (by decide), if_pos (by omega)]
def rl_QT (m : am_Mem) (st : Nat → Int) : am_Po := fun _ m' => (∀ k, ¬ (21 ≤ k ∧ k ≤ 27) → m' k = m k) ∧ rl_DR st m'
theorem sp_take {st : Nat → Int} {K : Nat} (hK : K < 3) (hS : rl_SO st) (hw : rl_wft st K = 0) (hD : rl_DR st m) : am_Mt l g 33 [.inr (.inl 20), .inl K] m (rl_QT m (rl_tk st K (m 28 0) (m 28 1) (m 28 2))) := by
  obtain ⟨d0, d1, d2, d3, d4, d5, dc, dr⟩ := hD
  obtain ⟨s0, s4, s5, -⟩ := hS
  have hfull : (K = 1 → st 4 < 4) ∧ (K = 2 → st 5 < 6) := by
    unfold rl_wft at hw
    split at hw
    · omega
    · split at hw
      · omega
      · split at hw <;> omega
  have hK' : K = 0 ∨ K = 1 ∨ K = 2 := by omega
  rcases hK' with rfl | rfl | rfl
  · refine fm_X5_take ⟨fun _ => ⟨by omega, by omega, by omega, am_cq (fm_X4_setLoad_d (Q := am_vq 0 _) ⟨Or.inr rfl, rfl, rfl⟩) ?_⟩, fun h => absurd rfl h⟩
    rintro z M ⟨rfl, rfl⟩
    refine ⟨fun k hk => by rw [am_up_k (by omega), am_up_k (by omega), am_up_k (by omega), am_up_k (by omega)], rfl, rfl, rfl, rfl, d4, d5, fun c hc => ?_, fun r hr => ?_⟩
    · have : rl_tk st 0 (m 28 0) (m 28 1) (m 28 2) 4 = st 4 := rfl
      rw [this] at hc
      obtain ⟨q1, q2, q3⟩ := dc c hc
      unfold rl_tk
      rw [if_pos rfl, if_pos rfl, if_pos rfl, if_neg (by omega), if_neg (by omega), if_neg (by omega), if_neg (by omega), if_neg (by omega), if_neg (by omega), if_neg (by omega), if_neg (by omega), if_neg (by omega), if_neg (by omega), if_neg (by omega), if_neg (by omega)]
      exact ⟨q1, q2, q3⟩
    · have : rl_tk st 0 (m 28 0) (m 28 1) (m 28 2) 5 = st 5 := rfl
      rw [this] at hr
      obtain ⟨q1, q2, q3⟩ := dr r hr
      unfold rl_tk
      rw [if_pos rfl, if_pos rfl, if_pos rfl, if_neg (by omega), if_neg (by omega), if_neg (by omega), if_neg (by omega), if_neg (by omega), if_neg (by omega), if_neg (by omega), if_neg (by omega), if_neg (by omega), if_neg (by omega), if_neg (by omega), if_neg (by omega)]
      exact ⟨q1, q2, q3⟩
  · have h4 := hfull.1 rfl
    obtain ⟨c0, hc0⟩ : ∃ c0 : Nat, m 21 4 = c0 := ⟨(m 21 4).toNat, by omega⟩
    have e4 : (st 4).toNat = c0 := by omega
    refine fm_X5_take ⟨fun h => absurd h (by decide), fun _ => ⟨fun _ => ⟨by omega, by omega, by omega, am_cq (fm_X4_addCord_d (Q := am_vq 0 (am_up (am_up (am_up (am_up m 22 c0 (m 28 0)) 23 c0 (m 28 1)) 24 c0 (m 28 2)) 21 4 (m 21 4 + 1))) ⟨fun h => by omega, fun _ => ⟨fun _ => ⟨by omega, by omega, by omega, by omega, rfl, ?_⟩, fun h => by omega⟩⟩) ?_⟩, fun h => absurd rfl h⟩⟩
    · rw [hc0, Int.toNat_natCast]
    · rintro z M ⟨rfl, rfl⟩
      refine ⟨fun k hk => by rw [am_up_k (by omega), am_up_k (by omega), am_up_k (by omega), am_up_k (by omega)], ?_, ?_, ?_, ?_, ?_, ?_, fun c hc => ?_, fun r hr => ?_⟩
      · unfold rl_tk; rw [if_neg (by omega), if_pos rfl, if_neg (by omega), if_neg (by omega), if_neg (by omega), if_neg (by omega)]; exact d0
      · unfold rl_tk; rw [if_neg (by omega), if_pos rfl, if_neg (by omega), if_neg (by omega), if_neg (by omega), if_neg (by omega)]; exact d1
      · unfold rl_tk; rw [if_neg (by omega), if_pos rfl, if_neg (by omega), if_neg (by omega), if_neg (by omega), if_neg (by omega)]; exact d2
      · unfold rl_tk; rw [if_neg (by omega), if_pos rfl, if_neg (by omega), if_neg (by omega), if_neg (by omega), if_neg (by omega)]; exact d3
      · unfold rl_tk; rw [if_neg (by omega), if_pos rfl, if_pos rfl]; show m 21 4 + 1 = _; rw [d4]
      · unfold rl_tk; rw [if_neg (by omega), if_pos rfl, if_neg (by omega), if_neg (by omega), if_neg (by omega), if_neg (by omega)]; exact d5
      · have hc : (c : Int) < st 4 + 1 := hc
        refine ⟨?_, ?_, ?_⟩
        · show am_up m 22 c0 (m 28 0) 22 c = _
          unfold rl_tk
          rw [if_neg (by omega), if_pos rfl, if_neg (by omega), e4]
          by_cases e : c = c0
          · rw [if_pos (by omega), e, am_up_at]
          · rw [if_neg (by omega), if_neg (by omega), if_neg (by omega), am_up_ni e]; exact (dc c (by omega)).1
        · show am_up m 23 c0 (m 28 1) 23 c = _
          unfold rl_tk
          rw [if_neg (by omega), if_pos rfl, if_neg (by omega), e4]
          by_cases e : c = c0
          · rw [if_neg (by omega), if_pos (by omega), e, am_up_at]
          · rw [if_neg (by omega), if_neg (by omega), if_neg (by omega), am_up_ni e]; exact (dc c (by omega)).2.1
        · show am_up m 24 c0 (m 28 2) 24 c = _
          unfold rl_tk
          rw [if_neg (by omega), if_pos rfl, if_neg (by omega), e4]
          by_cases e : c = c0
          · rw [if_neg (by omega), if_neg (by omega), if_pos (by omega), e, am_up_at]
          · rw [if_neg (by omega), if_neg (by omega), if_neg (by omega), am_up_ni e]; exact (dc c (by omega)).2.2
      · have hr' : (r : Int) < st 5 := by
          have : rl_tk st 1 (m 28 0) (m 28 1) (m 28 2) 5 = st 5 := by unfold rl_tk; rw [if_neg (by omega), if_pos rfl, if_neg (by omega), if_neg (by omega), if_neg (by omega), if_neg (by omega)]
          rw [this] at hr; exact hr
        unfold rl_tk
        rw [if_neg (by omega), if_pos rfl, if_neg (by omega), if_neg (by omega), if_neg (by omega), if_neg (by omega), if_neg (by omega), if_pos rfl, if_neg (by omega), if_neg (by omega), if_neg (by omega), if_neg (by omega), if_neg (by omega), if_pos rfl, if_neg (by omega), if_neg (by omega), if_neg (by omega), if_neg (by omega)]
        exact dr r hr'
  · have h5 := hfull.2 rfl
    obtain ⟨c0, hc0⟩ : ∃ c0 : Nat, m 21 5 = c0 := ⟨(m 21 5).toNat, by omega⟩
    have e5 : (st 5).toNat = c0 := by omega
    refine fm_X5_take ⟨fun h => absurd h (by decide), fun _ => ⟨fun h => absurd h (by decide), fun _ => ⟨by omega, by omega, by omega, am_cq (fm_X4_addRoad_d (Q := am_vq 0 (am_up (am_up (am_up (am_up m 25 c0 (m 28 0)) 26 c0 (m 28 1)) 27 c0 (m 28 2)) 21 5 (m 21 5 + 1))) ⟨fun h => by omega, fun _ => ⟨fun _ => ⟨by omega, by omega, by omega, by omega, rfl, ?_⟩, fun h => by omega⟩⟩) ?_⟩⟩⟩
    · rw [hc0, Int.toNat_natCast]
    · rintro z M ⟨rfl, rfl⟩
      have oth : ∀ j, j < 18 → j ≠ 5 → rl_tk st 2 (m 28 0) (m 28 1) (m 28 2) j = st j := fun j hj h => by
        unfold rl_tk; rw [if_neg (by omega), if_neg (by omega), if_neg h, if_neg (by omega), if_neg (by omega), if_neg (by omega)]
      refine ⟨fun k hk => by rw [am_up_k (by omega), am_up_k (by omega), am_up_k (by omega), am_up_k (by omega)], ?_, ?_, ?_, ?_, ?_, ?_, fun c hc => ?_, fun r hr => ?_⟩
      · rw [oth 0 (by omega) (by omega)]; exact d0
      · rw [oth 1 (by omega) (by omega)]; exact d1
      · rw [oth 2 (by omega) (by omega)]; exact d2
      · rw [oth 3 (by omega) (by omega)]; exact d3
      · rw [oth 4 (by omega) (by omega)]; exact d4
      · show m 21 5 + 1 = st 5 + 1; rw [d5]
      · rw [oth 4 (by omega) (by omega)] at hc
        rw [oth (6 + 3 * c) (by omega) (by omega), oth (7 + 3 * c) (by omega) (by omega), oth (8 + 3 * c) (by omega) (by omega)]
        exact dc c hc
      · have hr : (r : Int) < st 5 + 1 := hr
        refine ⟨?_, ?_, ?_⟩
        · show am_up m 25 c0 (m 28 0) 25 r = _
          unfold rl_tk
          rw [if_neg (by omega), if_neg (by omega), if_neg (by omega), e5]
          by_cases e : r = c0
          · rw [if_pos (by omega), e, am_up_at]
          · rw [if_neg (by omega), if_neg (by omega), if_neg (by omega), am_up_ni e]; exact (dr r (by omega)).1
        · show am_up m 26 c0 (m 28 1) 26 r = _
          unfold rl_tk
          rw [if_neg (by omega), if_neg (by omega), if_neg (by omega), e5]
          by_cases e : r = c0
          · rw [if_neg (by omega), if_pos (by omega), e, am_up_at]
          · rw [if_neg (by omega), if_neg (by omega), if_neg (by omega), am_up_ni e]; exact (dr r (by omega)).2.1
        · show am_up m 27 c0 (m 28 2) 27 r = _
          unfold rl_tk
          rw [if_neg (by omega), if_neg (by omega), if_neg (by omega), e5]
          by_cases e : r = c0
          · rw [if_neg (by omega), if_neg (by omega), if_pos (by omega), e, am_up_at]
          · rw [if_neg (by omega), if_neg (by omega), if_neg (by omega), am_up_ni e]; exact (dr r (by omega)).2.2
end RC
