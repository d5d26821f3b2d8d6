section ML
variable {l : Launch} {g : am_G} {mem m : am_Mem} {t : Int}
theorem rl_cz_SO {f : Nat → Int} {n q p' : Nat} {st st' : Nat → Int} (hq : q < n) (hS : rl_SO st) (h : rl_cz f n st q = .inl (p', st')) : rl_SO st' := by
  unfold rl_cz at h
  split at h
  · exact absurd h (by simp)
  · rename_i hw
    have hw0 : rl_wft st (rl_kd (f q)) = 0 := Decidable.of_not_not hw
    have hK := rl_kd_in (rl_wft_0 hw0).1
    rw [hK.1] at hw0
    generalize (rl_kd (f q)).toNat = K at h hw0 hK
    unfold rl_f0 at h
    cases h0 : rl_nm f n (am_least (K * 3 + 0)) (am_most (K * 3 + 0)) (q + 1) with
    | inr x => rw [h0] at h; exact absurd h (by simp)
    | inl y0 =>
      rw [h0] at h
      have b0 := rl_nm_l (show q + 1 ≤ n by omega) h0
      have h : rl_f1 f n st K y0.1 y0.2 = .inl (p', st') := h
      unfold rl_f1 at h
      cases h1 : rl_nm f n (am_least (K * 3 + 1)) (am_most (K * 3 + 1)) y0.1 with
      | inr x => rw [h1] at h; exact absurd h (by simp)
      | inl y1 =>
        rw [h1] at h
        have b1 := rl_nm_l b0.2.1 h1
        have h : rl_f2 f n st K y1.1 y0.2 y1.2 = .inl (p', st') := h
        unfold rl_f2 at h
        cases h2 : rl_nm f n (am_least (K * 3 + 2)) (am_most (K * 3 + 2)) y1.1 with
        | inr x => rw [h2] at h; exact absurd h (by simp)
        | inl y2 =>
          rw [h2] at h
          have b2 := rl_nm_l b1.2.1 h2
          have h : rl_f3 f n st K y2.1 y0.2 y1.2 y2.2 = .inl (p', st') := h
          unfold rl_f3 at h
          split at h
          · have := congrArg Prod.snd (Sum.inl.inj h)
            have e : rl_tk st K y0.2 y1.2 y2.2 = st' := this
            rw [← e]
            exact rl_tk_SO hK.2 hS hw0 b0.2.2 b1.2.2 b2.2.2
          · exact absurd h (by simp)
/-- what the reference has read -/
def rl_DM (st : Nat → Int) (m : am_Mem) : Prop := m 0 9 = st 0 ∧ m 0 10 = st 4 ∧ m 0 11 = st 5 ∧ (¬ st 0 = 0 → m 2 0 = st 1 ∧ m 2 1 = st 2 ∧ m 2 2 = st 3) ∧ (∀ c : Nat, (c : Int) < st 4 → m 3 (3 * c) = st (6 + 3 * c) ∧ m 3 (3 * c + 1) = st (7 + 3 * c) ∧ m 3 (3 * c + 2) = st (8 + 3 * c)) ∧ ∀ r : Nat, (r : Int) < st 5 → m 4 (3 * r) = st (18 + 3 * r) ∧ m 4 (3 * r + 1) = st (19 + 3 * r) ∧ m 4 (3 * r + 2) = st (20 + 3 * r)
theorem rl_tk1_o {st : Nat → Int} {v0 v1 v2 : Int} {c j : Nat} (hc : (st 4).toNat = c) (h4 : j ≠ 4) (hj : j < 6 + 3 * c ∨ 9 + 3 * c ≤ j) : rl_tk st 1 v0 v1 v2 j = st j := by
  unfold rl_tk; rw [if_neg (by omega), if_pos rfl, if_neg h4, if_neg (by omega), if_neg (by omega), if_neg (by omega)]
theorem rl_tk1_v {st : Nat → Int} {v0 v1 v2 : Int} {c : Nat} (hc : (st 4).toNat = c) : rl_tk st 1 v0 v1 v2 (6 + 3 * c) = v0 ∧ rl_tk st 1 v0 v1 v2 (7 + 3 * c) = v1 ∧ rl_tk st 1 v0 v1 v2 (8 + 3 * c) = v2 := by
  refine ⟨?_, ?_, ?_⟩
  · unfold rl_tk; rw [if_neg (by omega), if_pos rfl, if_neg (by omega), if_pos (by omega)]
  · unfold rl_tk; rw [if_neg (by omega), if_pos rfl, if_neg (by omega), if_neg (by omega), if_pos (by omega)]
  · unfold rl_tk; rw [if_neg (by omega), if_pos rfl, if_neg (by omega), if_neg (by omega), if_neg (by omega), if_pos (by omega)]
theorem rl_tk2_o {st : Nat → Int} {v0 v1 v2 : Int} {c j : Nat} (hc : (st 5).toNat = c) (h4 : j ≠ 5) (hj : j < 18 + 3 * c ∨ 21 + 3 * c ≤ j) : rl_tk st 2 v0 v1 v2 j = st j := by
  unfold rl_tk; rw [if_neg (by omega), if_neg (by omega), if_neg h4, if_neg (by omega), if_neg (by omega), if_neg (by omega)]
theorem rl_tk2_v {st : Nat → Int} {v0 v1 v2 : Int} {c : Nat} (hc : (st 5).toNat = c) : rl_tk st 2 v0 v1 v2 (18 + 3 * c) = v0 ∧ rl_tk st 2 v0 v1 v2 (19 + 3 * c) = v1 ∧ rl_tk st 2 v0 v1 v2 (20 + 3 * c) = v2 := by
  refine ⟨?_, ?_, ?_⟩
  · unfold rl_tk; rw [if_neg (by omega), if_neg (by omega), if_neg (by omega), if_pos (by omega)]
  · unfold rl_tk; rw [if_neg (by omega), if_neg (by omega), if_neg (by omega), if_neg (by omega), if_pos (by omega)]
  · unfold rl_tk; rw [if_neg (by omega), if_neg (by omega), if_neg (by omega), if_neg (by omega), if_neg (by omega), if_pos (by omega)]
theorem rl_tk0_o {st : Nat → Int} {v0 v1 v2 : Int} {j : Nat} (hj : 4 ≤ j) : rl_tk st 0 v0 v1 v2 j = st j := by
  unfold rl_tk; rw [if_pos rfl, if_neg (by omega), if_neg (by omega), if_neg (by omega), if_neg (by omega)]
def rl_QL (f : Nat → Int) (n : Nat) (st : Nat → Int) (q : Nat) (m : am_Mem) : am_Po := fun z m' => (∀ k, k ≠ 0 → ¬ (2 ≤ k ∧ k ≤ 4) → m' k = m k) ∧ (∀ j, ¬ (2 ≤ j ∧ j ≤ 11) → m' 0 j = m 0 j) ∧ ((∃ p' st', rl_cz f n st q = .inl (p', st') ∧ z = 1 ∧ m' 0 2 = (p' : Nat) ∧ (q < p' ∧ p' ≤ n) ∧ rl_DM st' m') ∨ (∃ c a, rl_cz f n st q = .inr (c, a) ∧ z = 0 ∧ m' 0 7 = (a : Nat) ∧ m' 0 8 = c))
theorem mp_isClause {f : Nat → Int} {n q : Nat} {st : Nat → Int} (hT : rl_TM f n m) (hq : q < n) (hS : rl_SO st) (hD : rl_DM st m) (m3 : m 0 3 = q) (htok : (¬ (48 ≤ f q ∧ f q ≤ 57) ∧ m 0 4 = f q ∧ m 0 2 = (q : Int) + 1) ∨ ((48 ≤ f q ∧ f q ≤ 57) ∧ m 0 4 = -1)) : am_Mt l g 100 [.inr (.inl 0)] m (rl_QL f n st q m) := by
  have hn := hT.2.1
  obtain ⟨d9, d10, d11, dl, dc, dr⟩ := hD
  obtain ⟨s0, s4, s5, -⟩ := hS
  have bad : ∀ c : Int, rl_wft st (rl_kd (f q)) = c → ¬ c = 0 → ∃ q' : am_Po, am_Mt l g 97 [.inr (.inl 0), .inl c] m q' ∧ ∀ (z : Int) (M : am_Mem), q' z M → ((z = 0 ∨ z = 1) ∧ rl_QL f n st q m z M) := fun c hw hc => am_cl mp_fails ⟨Or.inl rfl, fun k h1 _ => by rw [am_up_k h1, am_up_k h1], fun j hj => by rw [am_up_ni (by omega), am_up_ni (by omega)], Or.inr ⟨c, q, by unfold rl_cz; rw [hw, if_pos hc], rfl, m3, rfl⟩⟩
  have kdv : (f q = 99 → rl_kd (f q) = 1) ∧ (f q = 108 → rl_kd (f q) = 0) ∧ (f q = 114 → rl_kd (f q) = 2) ∧ (¬ f q = 99 → ¬ f q = 108 → ¬ f q = 114 → rl_kd (f q) = -1) := by
    unfold rl_kd
    refine ⟨fun h => by rw [if_pos h], fun h => by rw [if_neg (by omega), if_pos h], fun h => by rw [if_neg (by omega), if_neg (by omega), if_pos h], fun a b c => by rw [if_neg a, if_neg b, if_neg c]⟩
  have w1 : rl_kd (f q) = -1 → rl_wft st (rl_kd (f q)) = 1 := fun h => by unfold rl_wft; rw [if_pos h]
  have w2 : ¬ f q = 108 → st 0 = 0 → rl_wft st (rl_kd (f q)) = 1 := fun h h0 => by
    by_cases e : rl_kd (f q) = -1
    · exact w1 e
    · have hne : ¬ rl_kd (f q) = 0 := fun e0 => by
        by_cases a : f q = 99
        · have := kdv.1 a; omega
        · by_cases c : f q = 114
          · have := kdv.2.2.1 c; omega
          · have := kdv.2.2.2 a h c; omega
      unfold rl_wft; rw [if_neg e, if_pos ⟨hne, h0⟩]
  refine fm_X10_isClause ⟨fun h108 => ⟨fun h9 => bad 1 ?_ (by decide), fun h9 => ⟨fun h99 => ⟨fun h => absurd h99 h, fun _ => ⟨fun h4 => ⟨by omega, by omega, by omega, ?_⟩, fun h4 => bad 3 ?_ (by decide)⟩⟩, fun h99 => ⟨fun h114 => ⟨fun _ => ⟨fun h6 => ⟨by omega, by omega, by omega, ?_⟩, fun h6 => bad 3 ?_ (by decide)⟩, fun h => absurd h h99⟩, fun h114 => bad 1 ?_ (by decide)⟩⟩⟩, fun h108 => ⟨fun h9 => ⟨Or.inr rfl, ?_⟩, fun h9 => bad 3 ?_ (by decide)⟩⟩
  · exact w2 (by omega) (by omega)
  · -- a cord
    have hf : f q = 99 ∧ m 0 2 = (q : Int) + 1 := by omega
    have hk := kdv.1 hf.1
    have hcz : rl_cz f n st q = rl_f0 f n st 1 (q + 1) := by
      unfold rl_cz; rw [hk]
      rw [if_neg (fun h => h (by unfold rl_wft; rw [if_neg (by decide), if_neg (by omega), if_neg (by omega)]))]
      rfl
    obtain ⟨a, ha⟩ : ∃ a : Nat, st 4 = a := ⟨(st 4).toNat, by omega⟩
    have e4 : (st 4).toNat = a := by omega
    refine am_cq (mp_areThree_readCord (f := f) (n := n) (p := q + 1) (a := 3 * a) (K := 1) (st := st) (m := am_up m 0 10 (m 0 10 + 1)) (by omega) hT hf.2 (by omega) (by omega)) ?_
    rintro z M ⟨fr, frR, fj, hc⟩
    have frm : ∀ k, k ≠ 0 → ¬ (2 ≤ k ∧ k ≤ 4) → M k = m k := fun k h1 h2 => by rw [fr k h1 (by omega), am_up_k h1]
    have fjm : ∀ j, ¬ (2 ≤ j ∧ j ≤ 11) → M 0 j = m 0 j := fun j hj => by rw [fj j (by omega), am_up_ni (by omega)]
    rcases hc with ⟨p', v0, v1, v2, g1, rfl, g2, g3, g4, g5, g6⟩ | ⟨c, b, g1, rfl, g2, g3⟩
    · refine ⟨Or.inr rfl, frm, fjm, Or.inl ⟨p', _, by rw [hcz]; exact g1, rfl, g2, by omega, ?_, ?_, ?_, fun _ => ?_, fun c hcc => ?_, fun r hr => ?_⟩⟩
      · rw [rl_tk1_o e4 (by omega) (by omega), fj 9 (by omega)]; exact d9
      · rw [fj 10 (by omega)]; show m 0 10 + 1 = st 4 + 1; rw [d10]
      · rw [rl_tk1_o e4 (by omega) (by omega), fj 11 (by omega)]; exact d11
      · rw [rl_tk1_o e4 (by omega) (by omega), rl_tk1_o e4 (by omega) (by omega), rl_tk1_o e4 (by omega) (by omega), fr 2 (by omega) (by omega)]
        exact dl (by omega)
      · have hcc : (c : Int) < st 4 + 1 := hcc
        by_cases e : c = a
        · subst e
          obtain ⟨u0, u1, u2⟩ := rl_tk1_v (st := st) (v0 := v0) (v1 := v1) (v2 := v2) e4
          rw [u0, u1, u2]; exact ⟨g4, g5, g6⟩
        · rw [rl_tk1_o e4 (by omega) (by omega), rl_tk1_o e4 (by omega) (by omega), rl_tk1_o e4 (by omega) (by omega), frR _ (by omega), frR _ (by omega), frR _ (by omega)]
          exact dc c (by omega)
      · rw [rl_tk1_o e4 (by omega) (by omega)] at hr
        rw [rl_tk1_o e4 (by omega) (by omega), rl_tk1_o e4 (by omega) (by omega), rl_tk1_o e4 (by omega) (by omega), fr 4 (by omega) (by omega)]
        exact dr r hr
    · exact ⟨Or.inl rfl, frm, fjm, Or.inr ⟨c, b, by rw [hcz]; exact g1, rfl, g2, g3⟩⟩
  · have hf : f q = 99 := by omega
    have hk := kdv.1 hf
    unfold rl_wft; rw [hk, if_neg (by decide), if_neg (by omega), if_pos (by omega)]
  · -- a road
    have hf : f q = 114 ∧ m 0 2 = (q : Int) + 1 := by omega
    have hk := kdv.2.2.1 hf.1
    have hcz : rl_cz f n st q = rl_f0 f n st 2 (q + 1) := by
      unfold rl_cz; rw [hk]
      rw [if_neg (fun h => h (by unfold rl_wft; rw [if_neg (by decide), if_neg (by omega), if_neg (by omega)]))]
      rfl
    obtain ⟨a, ha⟩ : ∃ a : Nat, st 5 = a := ⟨(st 5).toNat, by omega⟩
    have e5 : (st 5).toNat = a := by omega
    refine am_cq (mp_areThree_readRoad (f := f) (n := n) (p := q + 1) (a := 3 * a) (K := 2) (st := st) (m := am_up m 0 11 (m 0 11 + 1)) (by omega) hT hf.2 (by omega) (by omega)) ?_
    rintro z M ⟨fr, frR, fj, hc⟩
    have frm : ∀ k, k ≠ 0 → ¬ (2 ≤ k ∧ k ≤ 4) → M k = m k := fun k h1 h2 => by rw [fr k h1 (by omega), am_up_k h1]
    have fjm : ∀ j, ¬ (2 ≤ j ∧ j ≤ 11) → M 0 j = m 0 j := fun j hj => by rw [fj j (by omega), am_up_ni (by omega)]
    rcases hc with ⟨p', v0, v1, v2, g1, rfl, g2, g3, g4, g5, g6⟩ | ⟨c, b, g1, rfl, g2, g3⟩
    · refine ⟨Or.inr rfl, frm, fjm, Or.inl ⟨p', _, by rw [hcz]; exact g1, rfl, g2, by omega, ?_, ?_, ?_, fun _ => ?_, fun c hcc => ?_, fun r hr => ?_⟩⟩
      · rw [rl_tk2_o e5 (by omega) (by omega), fj 9 (by omega)]; exact d9
      · rw [rl_tk2_o e5 (by omega) (by omega), fj 10 (by omega)]; exact d10
      · rw [fj 11 (by omega)]; show m 0 11 + 1 = st 5 + 1; rw [d11]
      · rw [rl_tk2_o e5 (by omega) (by omega), rl_tk2_o e5 (by omega) (by omega), rl_tk2_o e5 (by omega) (by omega), fr 2 (by omega) (by omega)]
        exact dl (by omega)
      · rw [rl_tk2_o e5 (by omega) (by omega)] at hcc
        rw [rl_tk2_o e5 (by omega) (by omega), rl_tk2_o e5 (by omega) (by omega), rl_tk2_o e5 (by omega) (by omega), fr 3 (by omega) (by omega)]
        exact dc c hcc
      · have hr : (r : Int) < st 5 + 1 := hr
        by_cases e : r = a
        · subst e
          obtain ⟨u0, u1, u2⟩ := rl_tk2_v (st := st) (v0 := v0) (v1 := v1) (v2 := v2) e5
          rw [u0, u1, u2]; exact ⟨g4, g5, g6⟩
        · rw [rl_tk2_o e5 (by omega) (by omega), rl_tk2_o e5 (by omega) (by omega), rl_tk2_o e5 (by omega) (by omega), frR _ (by omega), frR _ (by omega), frR _ (by omega)]
          exact dr r (by omega)
    · exact ⟨Or.inl rfl, frm, fjm, Or.inr ⟨c, b, by rw [hcz]; exact g1, rfl, g2, g3⟩⟩
  · have hf : f q = 114 := by omega
    have hk := kdv.2.2.1 hf
    unfold rl_wft; rw [hk, if_neg (by decide), if_neg (by omega), if_pos (by omega)]
  · exact w1 (kdv.2.2.2 (by omega) (by omega) (by omega))
  · -- the load
    have hf : f q = 108 ∧ m 0 2 = (q : Int) + 1 := by omega
    have hk := kdv.2.1 hf.1
    have hcz : rl_cz f n st q = rl_f0 f n st 0 (q + 1) := by
      unfold rl_cz; rw [hk]
      rw [if_neg (fun h => h (by unfold rl_wft; rw [if_neg (by decide), if_neg (by omega), if_neg (by omega)]))]
      rfl
    refine am_cq (mp_areThree_readLoad (f := f) (n := n) (p := q + 1) (a := 0) (K := 0) (st := st) (m := am_up m 0 9 1) rfl hT hf.2 (by omega) (by omega)) ?_
    rintro z M ⟨fr, frR, fj, hc⟩
    have frm : ∀ k, k ≠ 0 → ¬ (2 ≤ k ∧ k ≤ 4) → M k = m k := fun k h1 h2 => by rw [fr k h1 (by omega), am_up_k h1]
    have fjm : ∀ j, ¬ (2 ≤ j ∧ j ≤ 11) → M 0 j = m 0 j := fun j hj => by rw [fj j (by omega), am_up_ni (by omega)]
    rcases hc with ⟨p', v0, v1, v2, g1, rfl, g2, g3, g4, g5, g6⟩ | ⟨c, b, g1, rfl, g2, g3⟩
    · refine ⟨Or.inr rfl, frm, fjm, Or.inl ⟨p', _, by rw [hcz]; exact g1, rfl, g2, by omega, ?_, ?_, ?_, fun _ => ⟨g4, g5, g6⟩, fun c hcc => ?_, fun r hr => ?_⟩⟩
      · rw [fj 9 (by omega)]; rfl
      · rw [rl_tk0_o (by omega), fj 10 (by omega)]; exact d10
      · rw [rl_tk0_o (by omega), fj 11 (by omega)]; exact d11
      · rw [rl_tk0_o (by omega)] at hcc
        rw [rl_tk0_o (by omega), rl_tk0_o (by omega), rl_tk0_o (by omega), fr 3 (by omega) (by omega)]; exact dc c hcc
      · rw [rl_tk0_o (by omega)] at hr
        rw [rl_tk0_o (by omega), rl_tk0_o (by omega), rl_tk0_o (by omega), fr 4 (by omega) (by omega)]; exact dr r hr
    · exact ⟨Or.inl rfl, frm, fjm, Or.inr ⟨c, b, by rw [hcz]; exact g1, rfl, g2, g3⟩⟩
  · have hf : f q = 108 := by omega
    have hk := kdv.2.1 hf
    unfold rl_wft; rw [hk, if_neg (by decide), if_neg (by omega), if_pos (by omega)]
end ML
