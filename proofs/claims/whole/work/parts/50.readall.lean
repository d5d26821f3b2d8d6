section RA
variable {l : Launch} {g : am_G} {mem m : am_Mem} {t : Int}
theorem rl_wft_0 {st : Nat → Int} {k : Int} (h : rl_wft st k = 0) : ¬ k = -1 ∧ (¬ k = 0 → ¬ st 0 = 0) ∧ (k = 0 → st 0 = 0) ∧ (k = 1 → st 4 < 4) ∧ (k = 2 → st 5 < 6) := by
  unfold rl_wft at h
  split at h
  · omega
  · split at h
    · omega
    · split at h <;> omega
theorem rl_tk_SO {st : Nat → Int} {K : Nat} {v0 v1 v2 : Int} (hK : K < 3) (hS : rl_SO st) (hw : rl_wft st K = 0) (h0 : am_least (K * 3 + 0) ≤ v0 ∧ v0 ≤ am_most (K * 3 + 0)) (h1 : am_least (K * 3 + 1) ≤ v1 ∧ v1 ≤ am_most (K * 3 + 1)) (h2 : am_least (K * 3 + 2) ≤ v2 ∧ v2 ≤ am_most (K * 3 + 2)) : rl_SO (rl_tk st K v0 v1 v2) := by
  have hf := rl_wft_0 hw
  obtain ⟨s0, s4, s5, sz, sl, sc, sr⟩ := hS
  have hK' : K = 0 ∨ K = 1 ∨ K = 2 := by omega
  rcases hK' with rfl | rfl | rfl
  · have h0 : (1 : Int) ≤ v0 ∧ v0 ≤ 99 := h0
    have h1 : (1 : Int) ≤ v1 ∧ v1 ≤ 40 := h1
    have h2 : (0 : Int) ≤ v2 ∧ v2 ≤ 999 := h2
    have oth : ∀ j, 4 ≤ j → rl_tk st 0 v0 v1 v2 j = st j := fun j hj => by
      unfold rl_tk; rw [if_pos rfl, if_neg (by omega), if_neg (by omega), if_neg (by omega), if_neg (by omega)]
    refine ⟨Or.inr rfl, by rw [oth 4 (by omega)]; exact s4, by rw [oth 5 (by omega)]; exact s5, fun h => absurd (show (1 : Int) = 0 from h) (by decide), ⟨show 0 ≤ v0 ∧ v0 ≤ 99 by omega, show 0 ≤ v1 ∧ v1 ≤ 40 by omega, h2⟩, fun c hc => ?_, fun r hr => ?_⟩
    · rw [oth 4 (by omega)] at hc; rw [oth _ (by omega), oth _ (by omega), oth _ (by omega)]; exact sc c hc
    · rw [oth 5 (by omega)] at hr; rw [oth _ (by omega), oth _ (by omega), oth _ (by omega)]; exact sr r hr
  · have h0 : (0 : Int) ≤ v0 ∧ v0 ≤ 3 := h0
    have h1 : (0 : Int) ≤ v1 ∧ v1 ≤ 99 := h1
    have h2 : (0 : Int) ≤ v2 ∧ v2 ≤ 9 := h2
    have oth : ∀ j, j ≠ 4 → (j < 6 + 3 * (st 4).toNat ∨ 9 + 3 * (st 4).toNat ≤ j) → rl_tk st 1 v0 v1 v2 j = st j := fun j h4 hj => by
      unfold rl_tk; rw [if_neg (by omega), if_pos rfl, if_neg h4, if_neg (by omega), if_neg (by omega), if_neg (by omega)]
    have f4 : rl_tk st 1 v0 v1 v2 4 = st 4 + 1 := rfl
    have w4 := hf.2.2.2.1 rfl
    have w0 := hf.2.1 (by decide)
    refine ⟨by rw [oth 0 (by omega) (by omega)]; exact s0, by rw [f4]; omega, by rw [oth 5 (by omega) (by omega)]; exact s5, fun h => absurd (by rw [oth 0 (by omega) (by omega)] at h; exact h) w0, ⟨by rw [oth 1 (by omega) (by omega)]; exact sl.1, by rw [oth 2 (by omega) (by omega)]; exact sl.2.1, by rw [oth 3 (by omega) (by omega)]; exact sl.2.2⟩, fun c hc => ?_, fun r hr => ?_⟩
    · rw [f4] at hc
      by_cases e : c = (st 4).toNat
      · have g0 : rl_tk st 1 v0 v1 v2 (6 + 3 * c) = v0 := by unfold rl_tk; rw [if_neg (by omega), if_pos rfl, if_neg (by omega), if_pos (by omega)]
        have g1 : rl_tk st 1 v0 v1 v2 (7 + 3 * c) = v1 := by unfold rl_tk; rw [if_neg (by omega), if_pos rfl, if_neg (by omega), if_neg (by omega), if_pos (by omega)]
        have g2 : rl_tk st 1 v0 v1 v2 (8 + 3 * c) = v2 := by unfold rl_tk; rw [if_neg (by omega), if_pos rfl, if_neg (by omega), if_neg (by omega), if_neg (by omega), if_pos (by omega)]
        rw [g0, g1, g2]; exact ⟨h0, h1, h2⟩
      · rw [oth _ (by omega) (by omega), oth _ (by omega) (by omega), oth _ (by omega) (by omega)]; exact sc c (by omega)
    · rw [oth 5 (by omega) (by omega)] at hr; rw [oth _ (by omega) (by omega), oth _ (by omega) (by omega), oth _ (by omega) (by omega)]; exact sr r hr
  · have h0 : (1 : Int) ≤ v0 ∧ v0 ≤ 20 := h0
    have h1 : (10 : Int) ≤ v1 ∧ v1 ≤ 70 := h1
    have h2 : (0 : Int) ≤ v2 ∧ v2 ≤ 30 := h2
    have oth : ∀ j, j ≠ 5 → (j < 18 + 3 * (st 5).toNat ∨ 21 + 3 * (st 5).toNat ≤ j) → rl_tk st 2 v0 v1 v2 j = st j := fun j h4 hj => by
      unfold rl_tk; rw [if_neg (by omega), if_neg (by omega), if_neg h4, if_neg (by omega), if_neg (by omega), if_neg (by omega)]
    have f5 : rl_tk st 2 v0 v1 v2 5 = st 5 + 1 := rfl
    have w5 := hf.2.2.2.2 rfl
    have w0 := hf.2.1 (by decide)
    refine ⟨by rw [oth 0 (by omega) (by omega)]; exact s0, by rw [oth 4 (by omega) (by omega)]; exact s4, by rw [f5]; omega, fun h => absurd (by rw [oth 0 (by omega) (by omega)] at h; exact h) w0, ⟨by rw [oth 1 (by omega) (by omega)]; exact sl.1, by rw [oth 2 (by omega) (by omega)]; exact sl.2.1, by rw [oth 3 (by omega) (by omega)]; exact sl.2.2⟩, fun c hc => ?_, fun r hr => ?_⟩
    · rw [oth 4 (by omega) (by omega)] at hc; rw [oth _ (by omega) (by omega), oth _ (by omega) (by omega), oth _ (by omega) (by omega)]; exact sc c hc
    · rw [f5] at hr
      by_cases e : r = (st 5).toNat
      · have g0 : rl_tk st 2 v0 v1 v2 (18 + 3 * r) = v0 := by unfold rl_tk; rw [if_neg (by omega), if_neg (by omega), if_neg (by omega), if_pos (by omega)]
        have g1 : rl_tk st 2 v0 v1 v2 (19 + 3 * r) = v1 := by unfold rl_tk; rw [if_neg (by omega), if_neg (by omega), if_neg (by omega), if_neg (by omega), if_pos (by omega)]
        have g2 : rl_tk st 2 v0 v1 v2 (20 + 3 * r) = v2 := by unfold rl_tk; rw [if_neg (by omega), if_neg (by omega), if_neg (by omega), if_neg (by omega), if_neg (by omega), if_pos (by omega)]
        rw [g0, g1, g2]; exact ⟨h0, h1, h2⟩
      · rw [oth _ (by omega) (by omega), oth _ (by omega) (by omega), oth _ (by omega) (by omega)]; exact sr r (by omega)
/-- the stages of a clause -/
def rl_CI (f : Nat → Int) (n : Nat) (st : Nat → Int) (p K : Nat) (m0 m : am_Mem) (i e : Nat) : Prop := rl_wft st K = 0 ∧ m 20 2 = 0 ∧ m 20 3 = m0 20 3 ∧ (p < e ∧ e ≤ n) ∧ ((i = 0 ∧ rl_cz f n st p = rl_f0 f n st K e) ∨ (i = 1 ∧ rl_cz f n st p = rl_f1 f n st K e (m 28 0) ∧ (am_least (K * 3 + 0) ≤ m 28 0 ∧ m 28 0 ≤ am_most (K * 3 + 0))) ∨ (i = 2 ∧ rl_cz f n st p = rl_f2 f n st K e (m 28 0) (m 28 1) ∧ (am_least (K * 3 + 0) ≤ m 28 0 ∧ m 28 0 ≤ am_most (K * 3 + 0)) ∧ (am_least (K * 3 + 1) ≤ m 28 1 ∧ m 28 1 ≤ am_most (K * 3 + 1))) ∨ (i = 3 ∧ rl_cz f n st p = rl_f3 f n st K e (m 28 0) (m 28 1) (m 28 2) ∧ (am_least (K * 3 + 0) ≤ m 28 0 ∧ m 28 0 ≤ am_most (K * 3 + 0)) ∧ (am_least (K * 3 + 1) ≤ m 28 1 ∧ m 28 1 ≤ am_most (K * 3 + 1)) ∧ (am_least (K * 3 + 2) ≤ m 28 2 ∧ m 28 2 ≤ am_most (K * 3 + 2))))
def rl_QC (f : Nat → Int) (n : Nat) (st : Nat → Int) (p : Nat) (m : am_Mem) : am_Po := fun z m' => (∀ k, ¬ (20 ≤ k ∧ k ≤ 28) → m' k = m k) ∧ ((∃ p' st', rl_cz f n st p = .inl (p', st') ∧ z = (p' : Int) ∧ (p < p' ∧ p' ≤ n) ∧ m' 20 2 = 0 ∧ m' 20 3 = m 20 3 ∧ rl_DR st' m' ∧ rl_SO st') ∨ (∃ c a, rl_cz f n st p = .inr (c, a) ∧ z = (a : Int) ∧ a ≤ n ∧ (1 ≤ c ∧ c ≤ 3) ∧ m' 20 2 = c ∧ m' 20 3 = a))
def rl_JX (f : Nat → Int) (n : Nat) (st : Nat → Int) (p K : Nat) (m0 : am_Mem) : Nat → Int → Int → Int → Int → Int → am_Mem → Prop := fun w _ v3 _ v5 v6 m => v3 = K ∧ (∀ k, k ≠ 20 → k ≠ 28 → m k = m0 k) ∧ ∃ i e : Nat, v6 = i ∧ i ≤ 3 ∧ v5 = e ∧ w = 3 - i ∧ (rl_CI f n st p K m0 m i e ∨ (∃ c, rl_cz f n st p = .inr (c, e) ∧ e ≤ n ∧ (1 ≤ c ∧ c ≤ 3) ∧ m 20 2 = c ∧ m 20 3 = e))
theorem sp_failv {c a : Int} : am_Mt l g 31 [.inr (.inl 20), .inl c, .inl a] m (am_vq a (am_up (am_up m 20 2 c) 20 3 a)) := fm_X5_fail ⟨rfl, rfl⟩
theorem rl_DR_cg {st : Nat → Int} {m m' : am_Mem} (h : ∀ k, 21 ≤ k → k ≤ 27 → m' k = m k) (hD : rl_DR st m) : rl_DR st m' := by
  unfold rl_DR at *
  rw [h 21 (by omega) (by omega), h 22 (by omega) (by omega), h 23 (by omega) (by omega), h 24 (by omega) (by omega), h 25 (by omega) (by omega), h 26 (by omega) (by omega), h 27 (by omega) (by omega)]
  exact hD
theorem rl_wft_bd {st : Nat → Int} {k : Int} (h : ¬ rl_wft st k = 0) : 1 ≤ rl_wft st k ∧ rl_wft st k ≤ 3 := by
  unfold rl_wft at *
  split
  · omega
  · split
    · omega
    · split
      · omega
      · rename_i a b c; rw [if_neg a, if_neg b, if_neg c] at h; exact absurd rfl h
theorem sp_readClause {f : Nat → Int} {n p : Nat} {st : Nat → Int} (hT : rl_TX f n m) (hp : p < n) (hS : rl_SO st) (hD : rl_DR st m) (h0 : m 20 2 = 0) : am_Mt l g 29 [.inr (.inl 20), .inr (.inl 18), .inl p] m (rl_QC f n st p m) := by
  have hn := hT.2.1
  have ela : rl_la f n p = f p := by unfold rl_la; rw [if_pos hp]
  have hk : rl_kd (f p) = -1 ∨ rl_kd (f p) = 0 ∨ rl_kd (f p) = 1 ∨ rl_kd (f p) = 2 := by
    by_cases e : rl_kd (f p) = -1
    · exact Or.inl e
    · have := rl_kd_in e; omega
  refine fm_X5_readClause (rl_JX f n st p (rl_kd (f p)).toNat m) (am_cl (sp_la hT) ?_) ?_
  · rw [ela]
    refine am_cl (sp_kind _) (am_cl (sp_wordFault hk hD) ⟨fun hw => ?_, fun hw => am_cl sp_failv ?_⟩)
    · have hK := rl_kd_in (rl_wft_0 hw).1
      have hw' : rl_wft st ((rl_kd (f p)).toNat : Int) = 0 := by rw [← hK.1]; exact hw
      refine ⟨by omega, 3, rfl, rfl, hK.1, fun _ _ _ => rfl, 0, p + 1, rfl, by omega, by omega, rfl, Or.inl ⟨hw', h0, rfl, by omega, Or.inl ⟨rfl, ?_⟩⟩⟩
      unfold rl_cz; rw [if_neg (fun h => h hw)]
    · refine ⟨fun k hk => by rw [am_up_k (by omega), am_up_k (by omega)], Or.inr ⟨_, p, ?_, rfl, by omega, rl_wft_bd hw, rfl, rfl⟩⟩
      unfold rl_cz; rw [if_pos hw]
  · rintro w v2 v3 v4 v5 v6 M ⟨rfl, hM, i, e, rfl, hi, rfl, rfl, hst⟩
    have hMf : ∀ k, ¬ (20 ≤ k ∧ k ≤ 28) → M k = m k := fun k hk => hM k (by omega) (by omega)
    have hTM : rl_TX f n M := by
      unfold rl_TX; rw [hM 18 (by omega) (by omega), hM 19 (by omega) (by omega)]; exact hT
    generalize hKK : (rl_kd (f p)).toNat = K at *
    rcases hst with ⟨hw, m0, m3, he, hstage⟩ | ⟨c, c1, c2, c3, c4, c5⟩
    · have hK3 : K < 3 := by
        have h1 := (rl_wft_0 hw).1
        omega
      have hsk := rl_sk_bd (f := f) he.2
      refine ⟨fun h => ⟨fun _ => am_cl (sp_skip hTM he.2) (am_cl (sp_la hTM) ⟨fun h59 => ?_, fun h59 => am_cl sp_failv ?_⟩), fun h => absurd m0 h⟩, fun h => ⟨fun h => absurd m0 h, fun _ => am_cl (sp_skip hTM he.2) (am_cq (sp_readNumber hTM hsk.2.1 hK3 (show i < 3 by omega)) ?_)⟩⟩
      · rcases hstage with ⟨rfl, _⟩ | ⟨rfl, _⟩ | ⟨rfl, _⟩ | ⟨_, hz, b0, b1, b2⟩
        · omega
        · omega
        · omega
        · have hq : rl_sk f n e < n ∧ f (rl_sk f n e) = 59 := by
            unfold rl_la at h59
            by_cases q : rl_sk f n e < n
            · rw [if_pos q] at h59; exact ⟨q, h59⟩
            · rw [if_neg q] at h59; omega
          have hDM : rl_DR st M := rl_DR_cg (fun k a1 a2 => hM k (by omega) (by omega)) hD
          refine am_cq (sp_take hK3 hS hw hDM) (fun z M' hQ => ⟨by omega, fun k hk => by rw [hQ.1 k (by omega), hMf k hk], Or.inl ⟨rl_sk f n e + 1, _, ?_, by omega, by omega, ?_, ?_, hQ.2, rl_tk_SO hK3 hS hw b0 b1 b2⟩⟩)
          · rw [hz]; unfold rl_f3; rw [if_pos hq]
          · rw [hQ.1 20 (by omega)]; exact m0
          · rw [hQ.1 20 (by omega)]; exact m3
      · rcases hstage with ⟨rfl, _⟩ | ⟨rfl, _⟩ | ⟨rfl, _⟩ | ⟨_, hz, b0, b1, b2⟩
        · omega
        · omega
        · omega
        · refine ⟨fun k hk => by rw [am_up_k (by omega), am_up_k (by omega), hMf k hk], Or.inr ⟨1, rl_sk f n e, ?_, rfl, hsk.2.1, by omega, rfl, rfl⟩⟩
          rw [hz]; unfold rl_f3; rw [if_neg (fun hq => h59 (by unfold rl_la; rw [if_pos hq.1]; exact hq.2))]
      · rintro z M' (⟨e', v, q1, rfl, rfl⟩ | ⟨c, a, q1, rfl, rfl⟩)
        · have q1 : rl_nm f n (am_least (K * 3 + i)) (am_most (K * 3 + i)) e = .inl (e', v) := q1
          have hb := rl_nm_l he.2 q1
          have fr : ∀ k, k ≠ 20 → k ≠ 28 → am_up M 28 i v k = m k := fun k a1 a2 => by rw [am_up_k a2, hM k a1 a2]
          refine ⟨by omega, 3 - (i + 1), by omega, rfl, rfl, rfl, fr, i + 1, e', by omega, by omega, rfl, rfl, Or.inl ⟨hw, m0, m3, by omega, ?_⟩⟩
          rcases hstage with ⟨rfl, hz⟩ | ⟨rfl, hz, b0⟩ | ⟨rfl, hz, b0, b1⟩ | ⟨rfl, _⟩
          · refine Or.inr (Or.inl ⟨rfl, ?_, hb.2.2⟩)
            rw [hz]; unfold rl_f0; rw [q1]; rfl
          · refine Or.inr (Or.inr (Or.inl ⟨rfl, ?_, b0, hb.2.2⟩))
            rw [hz]; unfold rl_f1; rw [q1]; rfl
          · refine Or.inr (Or.inr (Or.inr ⟨rfl, ?_, b0, b1, hb.2.2⟩))
            rw [hz]; unfold rl_f2; rw [q1]; rfl
          · omega
        · have q1 : rl_nm f n (am_least (K * 3 + i)) (am_most (K * 3 + i)) e = .inr (c, a) := q1
          have hb := rl_nm_r he.2 q1
          have fr : ∀ k, k ≠ 20 → k ≠ 28 → am_up (am_up M 20 2 c) 20 3 a k = m k := fun k a1 a2 => by rw [am_up_k a1, am_up_k a1, hM k a1 a2]
          refine ⟨by omega, 3 - (i + 1), by omega, rfl, rfl, rfl, fr, i + 1, a, by omega, by omega, rfl, rfl, Or.inr ⟨c, ?_, hb.2.1, by omega, rfl, rfl⟩⟩
          rcases hstage with ⟨rfl, hz⟩ | ⟨rfl, hz, b0⟩ | ⟨rfl, hz, b0, b1⟩ | ⟨rfl, _⟩
          · rw [hz]; unfold rl_f0; rw [q1]
          · rw [hz]; unfold rl_f1; rw [q1]
          · rw [hz]; unfold rl_f2; rw [q1]
          · omega
    · have fin : rl_QC f n st p m e M := ⟨hMf, Or.inr ⟨c, e, c1, rfl, c2, c3, c4, c5⟩⟩
      exact ⟨fun h => ⟨fun h => by omega, fun _ => fin⟩, fun h => ⟨fun _ => ⟨fun h => by omega, fun _ => fin⟩, fun h => by omega⟩⟩
def rl_run (f : Nat → Int) (n : Nat) : Nat → (Nat → Int) → Nat → (Nat → Int) ⊕ (Int × Nat)
  | 0, st, _ => .inl st
  | k + 1, st, p => if rl_sk f n p < n then (match rl_cz f n st (rl_sk f n p) with | .inr x => .inr x | .inl y => rl_run f n k y.2 y.1) else .inl st
def rl_QA (f : Nat → Int) (n : Nat) (m : am_Mem) : am_Po := fun _ m' => (∀ k, ¬ (20 ≤ k ∧ k ≤ 28) → m' k = m k) ∧ ((∃ st, rl_run f n 200 (fun _ => 0) 0 = .inl st ∧ m' 20 2 = 0 ∧ m' 20 3 = -1 ∧ rl_DR st m' ∧ rl_SO st) ∨ (∃ c a, rl_run f n 200 (fun _ => 0) 0 = .inr (c, a) ∧ (1 ≤ c ∧ c ≤ 3) ∧ m' 20 2 = c ∧ m' 20 3 = (a : Nat)))
def rl_JA (f : Nat → Int) (n : Nat) (m0 : am_Mem) : Nat → Int → Int → am_Mem → Prop := fun w v2 v3 m => (∀ k, ¬ (20 ≤ k ∧ k ≤ 28) → m k = m0 k) ∧ ∃ j : Nat, v3 = j ∧ j ≤ 200 ∧ w = 200 - j ∧ ((∃ p st, m 20 2 = 0 ∧ m 20 3 = -1 ∧ v2 = (rl_sk f n p : Nat) ∧ p ≤ n ∧ rl_DR st m ∧ rl_SO st ∧ rl_run f n 200 (fun _ => 0) 0 = rl_run f n (200 - j) st p) ∨ (∃ c a, rl_run f n 200 (fun _ => 0) 0 = .inr (c, a) ∧ (1 ≤ c ∧ c ≤ 3) ∧ m 20 2 = c ∧ m 20 3 = (a : Nat)))
theorem rl_SO_0 : rl_SO (fun _ => 0) := ⟨Or.inl rfl, by show (0 : Int) ≤ 0 ∧ (0 : Int) ≤ 4; omega, by show (0 : Int) ≤ 0 ∧ (0 : Int) ≤ 6; omega, fun _ => ⟨rfl, rfl, rfl, rfl, rfl⟩, by show ((0 : Int) ≤ 0 ∧ (0 : Int) ≤ 99) ∧ ((0 : Int) ≤ 0 ∧ (0 : Int) ≤ 40) ∧ ((0 : Int) ≤ 0 ∧ (0 : Int) ≤ 999); omega, fun c hc => absurd hc (by show ¬ (c : Int) < 0; omega), fun c hc => absurd hc (by show ¬ (c : Int) < 0; omega)⟩
theorem sp_readAll {f : Nat → Int} {n : Nat} (hT : rl_TX f n m) : am_Mt l g 28 [.inr (.inl 20), .inr (.inl 18)] m (rl_QA f n m) := by
  refine fm_X5_readAll (rl_JA f n m) (am_cq (fm_X4_clear_d (Q := am_vq 0 _) ⟨Or.inl rfl, rfl, rfl⟩) ?_) ?_
  · rintro z M ⟨rfl, rfl⟩
    refine am_cl (sp_skip (p := 0) hT (by omega)) ⟨200, rfl, rfl, fun k hk => ?_, 0, rfl, by omega, rfl, Or.inl ⟨0, fun _ => 0, rfl, rfl, rfl, by omega, ⟨rfl, rfl, rfl, rfl, rfl, rfl, fun c hc => absurd hc (by show ¬ (c : Int) < 0; omega), fun c hc => absurd hc (by show ¬ (c : Int) < 0; omega)⟩, rl_SO_0, rfl⟩⟩
    rw [am_up_k (by omega), am_up_k (by omega), am_up_k (by omega), am_up_k (by omega), am_up_k (by omega), am_up_k (by omega), am_up_k (by omega), am_up_k (by omega)]
  · rintro w v2 v3 M ⟨hM, j, rfl, hj, rfl, hs⟩
    have hTM : rl_TX f n M := by
      unfold rl_TX; rw [hM 18 (by omega), hM 19 (by omega)]; exact hT
    rcases hs with ⟨p, st, m2, m3, rfl, hp, hD, hS, hrun⟩ | ⟨c, a, h1, h2, h3, h4⟩
    · refine ⟨fun h => ⟨hM, Or.inl ⟨st, ?_, m2, m3, hD, hS⟩⟩, fun h => ⟨fun h => absurd m2 h, fun _ => ⟨fun h' => ⟨hM, Or.inl ⟨st, ?_, m2, m3, hD, hS⟩⟩, fun h' => ?_⟩⟩⟩
      · rw [hrun, show 200 - j = 0 by omega]; rfl
      · rw [hTM.1] at h'
        rw [hrun, show 200 - j = (200 - (j + 1)) + 1 by omega, rl_run, if_neg (by omega)]
      · rw [hTM.1] at h'
        have hrun' : rl_run f n 200 (fun _ => 0) 0 = (match rl_cz f n st (rl_sk f n p) with | .inr x => .inr x | .inl y => rl_run f n (200 - (j + 1)) y.2 y.1) := by
          rw [hrun, show 200 - j = (200 - (j + 1)) + 1 by omega, rl_run, if_pos (by omega)]
        refine am_cq (sp_readClause hTM (by omega) hS hD m2) ?_
        rintro z M' ⟨q1, q2⟩
        have hTM' : rl_TX f n M' := by
          unfold rl_TX; rw [q1 18 (by omega), q1 19 (by omega)]; exact hTM
        have fr : ∀ k, ¬ (20 ≤ k ∧ k ≤ 28) → M' k = m k := fun k hk => by rw [q1 k hk, hM k hk]
        rcases q2 with ⟨p', st', c1, rfl, c2, c3, c4, c5, c6⟩ | ⟨c, a, c1, rfl, c2, c3, c4, c5⟩
        · rw [c1] at hrun'
          exact am_cl (sp_skip hTM' c2.2) ⟨by omega, 200 - (j + 1), by omega, rfl, rfl, fr, j + 1, by omega, by omega, rfl, Or.inl ⟨p', st', c3, by rw [c4, m3], rfl, c2.2, c5, c6, hrun'⟩⟩
        · rw [c1] at hrun'
          exact am_cl (sp_skip hTM' c2) ⟨by omega, 200 - (j + 1), by omega, rfl, rfl, fr, j + 1, by omega, by omega, rfl, Or.inr ⟨c, a, hrun', c3, c4, c5⟩⟩
    · have fin : rl_QA f n m 0 M := ⟨hM, Or.inr ⟨c, a, h1, h2, h3, h4⟩⟩
      exact ⟨fun _ => fin, fun _ => ⟨fun _ => fin, fun h => by omega⟩⟩
end RA
