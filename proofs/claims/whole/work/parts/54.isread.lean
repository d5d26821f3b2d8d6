section MI
variable {l : Launch} {g : am_G} {mem m : am_Mem} {t : Int}
def rl_QR (f : Nat → Int) (n : Nat) (m : am_Mem) : am_Po := fun z m' => (∀ k, k ≠ 0 → ¬ (2 ≤ k ∧ k ≤ 4) → m' k = m k) ∧ (∀ j, ¬ (2 ≤ j ∧ j ≤ 11) → m' 0 j = m 0 j) ∧ ((∃ st, rl_run f n 200 (fun _ => 0) 0 = .inl st ∧ z = 1 ∧ rl_DM st m' ∧ rl_SO st) ∨ (∃ c a, rl_run f n 200 (fun _ => 0) 0 = .inr (c, a) ∧ z = 0 ∧ m' 0 7 = (a : Nat) ∧ m' 0 8 = c))
def rl_JI (f : Nat → Int) (n : Nat) (m : am_Mem) : Nat → am_Mem → Prop := fun w M => (∀ k, k ≠ 0 → ¬ (2 ≤ k ∧ k ≤ 4) → M k = m k) ∧ (∀ j, ¬ (2 ≤ j ∧ j ≤ 11) → M 0 j = m 0 j) ∧ ∃ (k p : Nat) (st : Nat → Int), p ≤ n ∧ 200 ≤ k + p ∧ rl_DM st M ∧ rl_SO st ∧ rl_run f n 200 (fun _ => 0) 0 = rl_run f n k st p ∧ M 0 3 = (rl_sk f n p : Nat) ∧ ((rl_sk f n p = n ∧ M 0 4 = -2) ∨ (rl_sk f n p < n ∧ ((¬ (48 ≤ f (rl_sk f n p) ∧ f (rl_sk f n p) ≤ 57) ∧ M 0 4 = f (rl_sk f n p) ∧ M 0 2 = (rl_sk f n p : Nat) + 1) ∨ ((48 ≤ f (rl_sk f n p) ∧ f (rl_sk f n p) ≤ 57) ∧ M 0 4 = -1)))) ∧ w = n - p
theorem rl_DM_cg {st : Nat → Int} {m m' : am_Mem} (h0 : ∀ j, ¬ (2 ≤ j ∧ j ≤ 6) → m' 0 j = m 0 j) (h : ∀ k, k ≠ 0 → m' k = m k) (hD : rl_DM st m) : rl_DM st m' := by
  unfold rl_DM at *
  rw [h0 9 (by omega), h0 10 (by omega), h0 11 (by omega), h 2 (by omega), h 3 (by omega), h 4 (by omega)]
  exact hD
theorem rl_JI_of {f : Nat → Int} {n k p : Nat} {st : Nat → Int} {M0 M : am_Mem} {z : Int} (hfr : ∀ k, k ≠ 0 → ¬ (2 ≤ k ∧ k ≤ 4) → M0 k = m k) (hfj : ∀ j, ¬ (2 ≤ j ∧ j ≤ 11) → M0 0 j = m 0 j) (hp : p ≤ n) (hk : 200 ≤ k + p) (hD : rl_DM st M0) (hS : rl_SO st) (hr : rl_run f n 200 (fun _ => 0) 0 = rl_run f n k st p) (hQ : rl_QK f n p M0 z M) : rl_JI f n m (n - p) M := by
  obtain ⟨a, b, c, d⟩ := hQ
  refine ⟨fun k h1 h2 => by rw [a k h1, hfr k h1 h2], fun j hj => by rw [b j (by omega), hfj j hj], k, p, st, hp, hk, rl_DM_cg b a hD, hS, hr, c, ?_, rfl⟩
  rcases d with ⟨d1, d2, _⟩ | ⟨d1, d2, d3, d4⟩ | ⟨d1, d2, d3, _⟩
  · exact Or.inl ⟨d1, d2⟩
  · exact Or.inr ⟨d1, Or.inl ⟨d2, d3, d4⟩⟩
  · exact Or.inr ⟨d1, Or.inr ⟨d2, d3⟩⟩
theorem mp_isRead {f : Nat → Int} {n : Nat} (hT : rl_TM f n m) : am_Mt l g 101 [.inr (.inl 0)] m (rl_QR f n m) := by
  have hn := hT.2.1
  refine fm_X10_isRead (rl_JI f n m) ⟨Or.inl rfl, am_cq (mp_nextToken (p := 0) (f := f) (n := n) (m := am_up (am_up (am_up (am_up m 0 2 0) 0 9 0) 0 10 0) 0 11 0) hT rfl (by omega)) (fun z M hQ => ⟨n - 0, rfl, rl_JI_of (k := 200) (st := fun _ => 0) (fun k h1 _ => ?_) (fun j hj => ?_) (by omega) (by omega) ?_ rl_SO_0 rfl hQ⟩)⟩ ?_
  · rw [am_up_k h1, am_up_k h1, am_up_k h1, am_up_k h1]
  · rw [am_up_ni (by omega), am_up_ni (by omega), am_up_ni (by omega), am_up_ni (by omega)]
  · exact ⟨rfl, rfl, rfl, fun h => absurd rfl h, fun c hc => absurd hc (by show ¬ (c : Int) < 0; omega), fun c hc => absurd hc (by show ¬ (c : Int) < 0; omega)⟩
  · rintro w M ⟨hfr, hfj, k, p, st, hp, hk, hD, hS, hr, m3, htok, rfl⟩
    have hTM : rl_TM f n M := rl_TM_cg (hfj 0 (by omega)) (hfr 1 (by omega) (by omega)) hT
    have hsk := rl_sk_bd (f := f) hp
    refine ⟨fun h => ⟨Or.inr rfl, hfr, hfj, Or.inl ⟨st, ?_, rfl, hD, hS⟩⟩, fun h => ?_⟩
    · have e : ¬ rl_sk f n p < n := fun hlt => by
        rcases htok with ⟨q, _⟩ | ⟨_, ⟨_, q, _⟩ | ⟨_, q⟩⟩
        · omega
        · have := (hTM.2.2 _ hlt).2; omega
        · omega
      rw [hr]
      cases k with
      | zero => rfl
      | succ k => rw [rl_run, if_neg e]
    · have hlt : rl_sk f n p < n := by
        rcases htok with ⟨_, q⟩ | ⟨q, _⟩
        · exact absurd q h
        · exact q
      have htok' := htok.resolve_left (fun q => h q.2)
      obtain ⟨k', rfl⟩ : ∃ k', k = k' + 1 := ⟨k - 1, by omega⟩
      have hr' : rl_run f n 200 (fun _ => 0) 0 = (match rl_cz f n st (rl_sk f n p) with | .inr x => .inr x | .inl y => rl_run f n k' y.2 y.1) := by
        rw [hr, rl_run, if_pos hlt]
        cases rl_cz f n st (rl_sk f n p) <;> rfl
      refine am_cq (mp_isClause hTM hlt hS hD m3 htok'.2) ?_
      rintro z M' ⟨q1, q2, q3⟩
      have fr' : ∀ k, k ≠ 0 → ¬ (2 ≤ k ∧ k ≤ 4) → M' k = m k := fun k h1 h2 => by rw [q1 k h1 h2, hfr k h1 h2]
      have fj' : ∀ j, ¬ (2 ≤ j ∧ j ≤ 11) → M' 0 j = m 0 j := fun j hj => by rw [q2 j hj, hfj j hj]
      rcases q3 with ⟨p', st', c1, rfl, c2, c3, c4⟩ | ⟨c, a, c1, rfl, c2, c3⟩
      · have hS' := rl_cz_SO hlt hS c1
        rw [c1] at hr'
        have hTM' : rl_TM f n M' := rl_TM_cg (fj' 0 (by omega)) (fr' 1 (by omega) (by omega)) hT
        exact ⟨fun _ => am_cq (mp_nextToken hTM' c2 c3.2) (fun z M'' hQ => ⟨n - p', by omega, rfl, rl_JI_of fr' fj' c3.2 (by omega) c4 hS' hr' hQ⟩), fun h => absurd h (by decide)⟩
      · rw [c1] at hr'
        exact ⟨fun h => absurd rfl h, fun _ => ⟨Or.inl rfl, fr', fj', Or.inr ⟨c, a, hr', rfl, c2, c3⟩⟩⟩
end MI
