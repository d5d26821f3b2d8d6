section MR
variable {l : Launch} {g : am_G} {mem m : am_Mem} {t : Int}
/-- the text stands in the reference's cells -/
def rl_TM (f : Nat → Int) (n : Nat) (m : am_Mem) : Prop := m 0 0 = n ∧ n ≤ 200 ∧ ∀ i : Nat, i < n → m 1 i = f i ∧ (0 ≤ f i ∧ f i ≤ 255)
def rl_QK (f : Nat → Int) (n p : Nat) (m : am_Mem) : am_Po := fun _ m' => (∀ k, k ≠ 0 → m' k = m k) ∧ (∀ j, ¬ (2 ≤ j ∧ j ≤ 6) → m' 0 j = m 0 j) ∧ m' 0 3 = (rl_sk f n p : Nat) ∧ ((rl_sk f n p = n ∧ m' 0 4 = -2 ∧ m' 0 2 = (rl_sk f n p : Nat)) ∨ (rl_sk f n p < n ∧ ¬ (48 ≤ f (rl_sk f n p) ∧ f (rl_sk f n p) ≤ 57) ∧ m' 0 4 = f (rl_sk f n p) ∧ m' 0 2 = (rl_sk f n p : Nat) + 1) ∨ (rl_sk f n p < n ∧ (48 ≤ f (rl_sk f n p) ∧ f (rl_sk f n p) ≤ 57) ∧ m' 0 4 = -1 ∧ m' 0 2 = ((rl_sc f n (rl_sk f n p) 0 0).1 : Nat) ∧ m' 0 5 = (rl_sc f n (rl_sk f n p) 0 0).2 ∧ m' 0 6 = (((rl_sc f n (rl_sk f n p) 0 0).1 - rl_sk f n p : Nat) : Int)))
def rl_J95 (f : Nat → Int) (n p : Nat) (m : am_Mem) : Nat → am_Mem → Prop := fun w M => ∃ e : Nat, (rl_sk f n p < n ∧ 48 ≤ f (rl_sk f n p) ∧ f (rl_sk f n p) ≤ 57) ∧ (∀ k, k ≠ 0 → M k = m k) ∧ (∀ j, ¬ (2 ≤ j ∧ j ≤ 6) → M 0 j = m 0 j) ∧ M 0 3 = (rl_sk f n p : Nat) ∧ M 0 2 = e ∧ rl_sk f n p ≤ e ∧ e ≤ n ∧ rl_sc f n (rl_sk f n p) 0 0 = rl_sc f n e (e - rl_sk f n p) (M 0 5) ∧ M 0 6 = ((e - rl_sk f n p : Nat) : Int) ∧ (0 ≤ M 0 5 ∧ M 0 5 ≤ 999) ∧ (e - rl_sk f n p = 0 → M 0 5 = 0) ∧ (e - rl_sk f n p = 1 → M 0 5 ≤ 9) ∧ (e - rl_sk f n p = 2 → M 0 5 ≤ 99) ∧ w = n - e
def rl_J0 (f : Nat → Int) (n p : Nat) (m : am_Mem) : Nat → am_Mem → Prop := fun w M => ∃ q : Nat, (∀ k, k ≠ 0 → M k = m k) ∧ (∀ j, ¬ (2 ≤ j ∧ j ≤ 6) → M 0 j = m 0 j) ∧ M 0 2 = q ∧ q ≤ n ∧ rl_sk f n p = rl_sk f n q ∧ w = n - q + 1
/-- a memory that begins a token at q -/
theorem rl_J95_st {f : Nat → Int} {n p q : Nat} {M : am_Mem} (hfr : ∀ k, k ≠ 0 → M k = m k) (hfj : ∀ j, ¬ (2 ≤ j ∧ j ≤ 6) → M 0 j = m 0 j) (h2 : M 0 2 = q) (hs : rl_sk f n p = q) (hq : q < n) (hd : 48 ≤ f q ∧ f q ≤ 57) : rl_J95 f n p m (n - q) (am_up (am_up (am_up M 0 3 (M 0 2)) 0 5 0) 0 6 0) := by
  refine ⟨q, by rw [hs]; exact ⟨hq, hd⟩, fun k hk => by rw [am_up_k hk, am_up_k hk, am_up_k hk]; exact hfr k hk, fun j hj => by rw [am_up_ni (by omega), am_up_ni (by omega), am_up_ni (by omega)]; exact hfj j (by omega), ?_, h2, by omega, by omega, ?_, ?_, ?_, fun _ => rfl, fun _ => ?_, fun _ => ?_, rfl⟩
  · show M 0 2 = _; rw [h2, hs]
  · show _ = rl_sc f n q (q - rl_sk f n p) 0; rw [hs, Nat.sub_self]
  · show (0 : Int) = _; omega
  · show (0 : Int) ≤ 0 ∧ (0 : Int) ≤ 999; omega
  · show (0 : Int) ≤ 9; omega
  · show (0 : Int) ≤ 99; omega
theorem mp_nextToken {f : Nat → Int} {n p : Nat} (hT : rl_TM f n m) (hp : m 0 2 = p) (hpn : p ≤ n) : am_Mt l g 96 [.inr (.inl 0)] m (rl_QK f n p m) := by
  obtain ⟨h1, h2, h3⟩ := hT
  have hfr0 : ∀ k, k ≠ 0 → m k = m k := fun _ _ => rfl
  have hfj0 : ∀ j, ¬ (2 ≤ j ∧ j ≤ 6) → m 0 j = m 0 j := fun _ _ => rfl
  refine fm_X10_nextToken (rl_J95 f n p m) (rl_J0 f n p m) ?_ ?_ ?_
  · have hsk0 : rl_sk f n p = rl_sk f n p := rfl
    obtain ⟨q', hq'⟩ : ∃ q' : Nat, p = q' := ⟨p, rfl⟩
    have hp' : m 0 2 = q' := by rw [hp, hq']
    have hskq : rl_sk f n p = rl_sk f n q' := by rw [hq']
    rw [h1]
    refine ⟨fun h => ⟨fun h' => by omega, fun _ => ?_⟩, fun h => ⟨by omega, fun h5 => ⟨fun _ => ⟨by omega, am_cbe (mp_in _ 48 57) (fun hd => ?_) (fun hd => ?_)⟩, fun h' => by omega⟩, fun h5 => ⟨by omega, ?_⟩⟩⟩
    · have es : rl_sk f n p = q' := by rw [hskq, rl_sk_ge (by omega)]
      refine ⟨fun k hk => by rw [am_up_k hk, am_up_k hk, am_up_k hk, am_up_k hk], fun j hj => by rw [am_up_ni (by omega), am_up_ni (by omega), am_up_ni (by omega), am_up_ni (by omega)], ?_, Or.inl ⟨by omega, rfl, ?_⟩⟩
      · show m 0 2 = _; rw [hp', es]
      · show m 0 2 = _; rw [hp', es]
    · have e1 : m 1 (m 0 2).toNat = f q' := by rw [hp', Int.toNat_natCast, hfr0 1 (by omega)]; exact (h3 q' (by omega)).1
      rw [e1] at hd h5
      have e5 : rl_sk f n p = q' := by rw [hskq, rl_sk_ne h5]
      exact ⟨n - q', rfl, rl_J95_st hfr0 hfj0 hp' e5 (by omega) hd⟩
    · have e1 : m 1 (m 0 2).toNat = f q' := by rw [hp', Int.toNat_natCast, hfr0 1 (by omega)]; exact (h3 q' (by omega)).1
      rw [e1] at hd h5
      have es : rl_sk f n p = q' := by rw [hskq, rl_sk_ne h5]
      refine ⟨?_, ?_, fun k hk => by rw [am_up_k hk, am_up_k hk, am_up_k hk, am_up_k hk, am_up_k hk], fun j hj => by rw [am_up_ni (by omega), am_up_ni (by omega), am_up_ni (by omega), am_up_ni (by omega), am_up_ni (by omega)], ?_, Or.inr (Or.inl ⟨by omega, by rw [es]; exact hd, ?_, ?_⟩)⟩
      · show 0 ≤ m 0 2 ∧ m 0 2 < 200; omega
      · show -2147483648 ≤ m 0 2 + 1 ∧ m 0 2 + 1 ≤ 2147483647; omega
      · show m 0 2 = _; rw [hp', es]
      · show m 1 (m 0 2).toNat = _; rw [e1, es]
      · show m 0 2 + 1 = _; rw [hp', es]
    · have e1 : m 1 (m 0 2).toNat = f q' := by rw [hp', Int.toNat_natCast, hfr0 1 (by omega)]; exact (h3 q' (by omega)).1
      rw [e1] at h5
      have es : rl_sk f n p = rl_sk f n (q' + 1) := by rw [hskq]; exact rl_sk_32 (by omega) h5
      exact ⟨n - (q' + 1) + 1, rfl, q' + 1, fun k hk => am_up_k hk, fun j hj => am_up_ni (by omega), by show m 0 2 + 1 = _; omega, by omega, es, rfl⟩
  · rintro w M ⟨e, hd, hfr, hfj, m3, m2, hqe, hen, hsc, m6, hv, hv0, hv1, hv2, rfl⟩
    have m0 : M 0 0 = n := by rw [hfj 0 (by omega), h1]
    have e1 : e < n → M 1 (M 0 2).toNat = f e := fun he => by rw [m2, Int.toNat_natCast, hfr 1 (by omega)]; exact (h3 e he).1
    rw [m0]
    have hsk := rl_sk_bd (f := f) hpn
    refine ⟨fun h => ⟨fun k hk => by rw [am_up_k hk]; exact hfr k hk, fun j hj => by rw [am_up_ni (by omega)]; exact hfj j hj, m3, Or.inr (Or.inr ⟨hd.1, hd.2, rfl, ?_, ?_, ?_⟩)⟩, fun h => ⟨by omega, am_cbe (mp_in _ 48 57) (fun hg => ?_) (fun hg => ⟨fun k hk => by rw [am_up_k hk]; exact hfr k hk, fun j hj => by rw [am_up_ni (by omega)]; exact hfj j hj, m3, Or.inr (Or.inr ⟨hd.1, hd.2, rfl, ?_, ?_, ?_⟩)⟩)⟩⟩
    · show M 0 2 = _; rw [m2, hsc, rl_sc_ge (by omega)]
    · show M 0 5 = _; rw [hsc, rl_sc_ge (by omega)]
    · show M 0 6 = _; rw [m6, hsc, rl_sc_ge (by omega)]
    · rw [e1 (by omega)] at hg ⊢
      have hs := rl_sc_d (c := e - rl_sk f n p) (v := M 0 5) (show e < n by omega) hg
      refine ⟨fun h5 => ⟨by omega, by omega, n - (e + 1), by omega, rfl, e + 1, hd, fun k hk => by rw [am_up_k hk, am_up_k hk, am_up_k hk]; exact hfr k hk, fun j hj => by rw [am_up_ni (by omega), am_up_ni (by omega), am_up_ni (by omega)]; exact hfj j hj, m3, ?_, by omega, by omega, ?_, ?_, hv, fun h => by omega, fun h => by omega, fun h => by omega, rfl⟩, fun h5 => ⟨by omega, by omega, by omega, by omega, by omega, by omega, n - (e + 1), by omega, rfl, e + 1, hd, fun k hk => by rw [am_up_k hk, am_up_k hk, am_up_k hk]; exact hfr k hk, fun j hj => by rw [am_up_ni (by omega), am_up_ni (by omega), am_up_ni (by omega)]; exact hfj j hj, m3, ?_, by omega, by omega, ?_, ?_, ?_, fun h => by omega, fun h => ?_, fun h => ?_, rfl⟩⟩
      · show M 0 2 + 1 = _; omega
      · show _ = rl_sc f n (e + 1) (e + 1 - rl_sk f n p) (M 0 5)
        rw [hsc, hs, if_neg (by omega), show e + 1 - rl_sk f n p = e - rl_sk f n p + 1 by omega]
      · show M 0 6 + 1 = _; omega
      · show M 0 2 + 1 = _; omega
      · show _ = rl_sc f n (e + 1) (e + 1 - rl_sk f n p) (10 * M 0 5 + f e - 48)
        rw [hsc, hs, if_pos (by omega), show e + 1 - rl_sk f n p = e - rl_sk f n p + 1 by omega]
      · show M 0 6 + 1 = _; omega
      · show 0 ≤ 10 * M 0 5 + f e - 48 ∧ 10 * M 0 5 + f e - 48 ≤ 999; omega
      · show 10 * M 0 5 + f e - 48 ≤ 9; omega
      · show 10 * M 0 5 + f e - 48 ≤ 99; omega
    · rw [e1 (by omega)] at hg
      show M 0 2 = _; rw [m2, hsc, rl_sc_n hg]
    · rw [e1 (by omega)] at hg
      show M 0 5 = _; rw [hsc, rl_sc_n hg]
    · rw [e1 (by omega)] at hg
      show M 0 6 = _; rw [m6, hsc, rl_sc_n hg]
  · rintro w M ⟨q', hfr, hfj, hp', hq'n, hskq, rfl⟩
    have m0 : M 0 0 = n := by rw [hfj 0 (by omega), h1]
    rw [m0]
    refine ⟨fun h => ⟨fun h' => by omega, fun _ => ?_⟩, fun h => ⟨by omega, fun h5 => ⟨fun _ => ⟨by omega, am_cbe (mp_in _ 48 57) (fun hd => ?_) (fun hd => ?_)⟩, fun h' => by omega⟩, fun h5 => ⟨by omega, ?_⟩⟩⟩
    · have es : rl_sk f n p = q' := by rw [hskq, rl_sk_ge (by omega)]
      refine ⟨fun k hk => by rw [am_up_k hk, am_up_k hk, am_up_k hk, am_up_k hk]; exact hfr k hk, fun j hj => by rw [am_up_ni (by omega), am_up_ni (by omega), am_up_ni (by omega), am_up_ni (by omega)]; exact hfj j hj, ?_, Or.inl ⟨by omega, rfl, ?_⟩⟩
      · show M 0 2 = _; rw [hp', es]
      · show M 0 2 = _; rw [hp', es]
    · have e1 : M 1 (M 0 2).toNat = f q' := by rw [hp', Int.toNat_natCast, hfr 1 (by omega)]; exact (h3 q' (by omega)).1
      rw [e1] at hd h5
      have e5 : rl_sk f n p = q' := by rw [hskq, rl_sk_ne h5]
      exact ⟨n - q', by omega, rfl, rl_J95_st hfr hfj hp' e5 (by omega) hd⟩
    · have e1 : M 1 (M 0 2).toNat = f q' := by rw [hp', Int.toNat_natCast, hfr 1 (by omega)]; exact (h3 q' (by omega)).1
      rw [e1] at hd h5
      have es : rl_sk f n p = q' := by rw [hskq, rl_sk_ne h5]
      refine ⟨?_, ?_, fun k hk => by rw [am_up_k hk, am_up_k hk, am_up_k hk, am_up_k hk, am_up_k hk]; exact hfr k hk, fun j hj => by rw [am_up_ni (by omega), am_up_ni (by omega), am_up_ni (by omega), am_up_ni (by omega), am_up_ni (by omega)]; exact hfj j hj, ?_, Or.inr (Or.inl ⟨by omega, by rw [es]; exact hd, ?_, ?_⟩)⟩
      · show 0 ≤ M 0 2 ∧ M 0 2 < 200; omega
      · show -2147483648 ≤ M 0 2 + 1 ∧ M 0 2 + 1 ≤ 2147483647; omega
      · show M 0 2 = _; rw [hp', es]
      · show M 1 (M 0 2).toNat = _; rw [e1, es]
      · show M 0 2 + 1 = _; rw [hp', es]
    · have e1 : M 1 (M 0 2).toNat = f q' := by rw [hp', Int.toNat_natCast, hfr 1 (by omega)]; exact (h3 q' (by omega)).1
      rw [e1] at h5
      have es : rl_sk f n p = rl_sk f n (q' + 1) := by rw [hskq]; exact rl_sk_32 (by omega) h5
      exact ⟨n - (q' + 1) + 1, by omega, rfl, q' + 1, fun k hk => by rw [am_up_k hk]; exact hfr k hk, fun j hj => by rw [am_up_ni (by omega)]; exact hfj j hj, by show M 0 2 + 1 = _; omega, by omega, es, rfl⟩
end MR
