section RD
variable {l : Launch} {g : am_G} {mem m : am_Mem} {t : Int}
/-! reading, as pure functions of the letters f and their number n -/
def rl_skF (f : Nat → Int) : Nat → Nat → Nat
  | 0, p => p
  | k + 1, p => if f p = 32 then rl_skF f k (p + 1) else p
def rl_sk (f : Nat → Int) (n p : Nat) : Nat := rl_skF f (n - p) p
theorem rl_sk_ge {f : Nat → Int} {n p : Nat} (h : n ≤ p) : rl_sk f n p = p := by
  unfold rl_sk; rw [show n - p = 0 by omega]; rfl
theorem rl_sk_32 {f : Nat → Int} {n p : Nat} (h : p < n) (e : f p = 32) : rl_sk f n p = rl_sk f n (p + 1) := by
  unfold rl_sk; rw [show n - p = (n - (p + 1)) + 1 by omega, rl_skF, if_pos e]
theorem rl_sk_ne {f : Nat → Int} {n p : Nat} (e : ¬ f p = 32) : rl_sk f n p = p := by
  unfold rl_sk
  by_cases h : p < n
  · rw [show n - p = (n - (p + 1)) + 1 by omega, rl_skF, if_neg e]
  · rw [show n - p = 0 by omega]; rfl
theorem rl_skF_bd {f : Nat → Int} : ∀ k p : Nat, p ≤ rl_skF f k p ∧ rl_skF f k p ≤ p + k ∧ (rl_skF f k p < p + k → ¬ f (rl_skF f k p) = 32)
  | 0, p => ⟨Nat.le_refl _, Nat.le_refl _, fun h => absurd h (by show ¬ p < p + 0; omega)⟩
  | k + 1, p => by
    rw [rl_skF]
    by_cases e : f p = 32
    · rw [if_pos e]
      have := rl_skF_bd (f := f) k (p + 1)
      refine ⟨by omega, by omega, fun h => this.2.2 (by omega)⟩
    · rw [if_neg e]; exact ⟨by omega, by omega, fun _ => e⟩
theorem rl_sk_bd {f : Nat → Int} {n p : Nat} (h : p ≤ n) : p ≤ rl_sk f n p ∧ rl_sk f n p ≤ n ∧ (rl_sk f n p < n → ¬ f (rl_sk f n p) = 32) := by
  have := rl_skF_bd (f := f) (n - p) p
  unfold rl_sk
  rw [show p + (n - p) = n by omega] at this
  exact this
def rl_scF (f : Nat → Int) : Nat → Nat → Nat → Int → Nat × Int
  | 0, p, _, v => (p, v)
  | k + 1, p, c, v => if 48 ≤ f p ∧ f p ≤ 57 then rl_scF f k (p + 1) (c + 1) (if c < 3 then 10 * v + f p - 48 else v) else (p, v)
def rl_sc (f : Nat → Int) (n p c : Nat) (v : Int) : Nat × Int := rl_scF f (n - p) p c v
theorem rl_sc_ge {f : Nat → Int} {n p c : Nat} {v : Int} (h : n ≤ p) : rl_sc f n p c v = (p, v) := by
  unfold rl_sc; rw [show n - p = 0 by omega]; rfl
theorem rl_sc_d {f : Nat → Int} {n p c : Nat} {v : Int} (h : p < n) (e : 48 ≤ f p ∧ f p ≤ 57) : rl_sc f n p c v = rl_sc f n (p + 1) (c + 1) (if c < 3 then 10 * v + f p - 48 else v) := by
  unfold rl_sc; rw [show n - p = (n - (p + 1)) + 1 by omega, rl_scF, if_pos e]
theorem rl_sc_n {f : Nat → Int} {n p c : Nat} {v : Int} (e : ¬ (48 ≤ f p ∧ f p ≤ 57)) : rl_sc f n p c v = (p, v) := by
  unfold rl_sc
  by_cases h : p < n
  · rw [show n - p = (n - (p + 1)) + 1 by omega, rl_scF, if_neg e]
  · rw [show n - p = 0 by omega]; rfl
theorem rl_scF_bd {f : Nat → Int} : ∀ (k p c : Nat) (v : Int), p ≤ (rl_scF f k p c v).1 ∧ (rl_scF f k p c v).1 ≤ p + k
  | 0, p, c, v => ⟨Nat.le_refl _, Nat.le_refl _⟩
  | k + 1, p, c, v => by
    rw [rl_scF]
    split
    · have := rl_scF_bd (f := f) k (p + 1) (c + 1) (if c < 3 then 10 * v + f p - 48 else v); omega
    · exact ⟨Nat.le_refl _, by show p ≤ p + (k + 1); omega⟩
theorem rl_sc_bd {f : Nat → Int} {n p c : Nat} {v : Int} (h : p ≤ n) : p ≤ (rl_sc f n p c v).1 ∧ (rl_sc f n p c v).1 ≤ n := by
  have := rl_scF_bd (f := f) (n - p) p c v
  unfold rl_sc; omega
/-- a number at q -/
def rl_nq (f : Nat → Int) (n : Nat) (lo hi : Int) (q : Nat) : (Nat × Int) ⊕ (Int × Nat) :=
  if q < n ∧ 48 ≤ f q ∧ f q ≤ 57 then (if (rl_sc f n q 0 0).1 - q ≤ 3 ∧ lo ≤ (rl_sc f n q 0 0).2 ∧ (rl_sc f n q 0 0).2 ≤ hi then .inl (rl_sc f n q 0 0) else .inr (2, q)) else .inr (1, q)
def rl_nm (f : Nat → Int) (n : Nat) (lo hi : Int) (p : Nat) : (Nat × Int) ⊕ (Int × Nat) := rl_nq f n lo hi (rl_sk f n p)
/-- the text stands in the class's cells -/
def rl_TX (f : Nat → Int) (n : Nat) (m : am_Mem) : Prop := m 18 1 = n ∧ n ≤ 200 ∧ ∀ i : Nat, i < n → m 19 i = f i ∧ (0 ≤ f i ∧ f i ≤ 255)
def rl_la (f : Nat → Int) (n p : Nat) : Int := if p < n then f p else -1
theorem sp_la {f : Nat → Int} {n p : Nat} (hT : rl_TX f n m) : am_Mt l g 45 [.inr (.inl 18), .inl p] m (am_vq (rl_la f n p) m) := by
  obtain ⟨h1, h2, h3⟩ := hT
  have := sp_letterAt (l := l) (g := g) (mem := m) (a := p) (by omega) (by omega)
  have e : (if 0 ≤ (p : Int) ∧ (p : Int) < m 18 1 then m 19 (p : Int).toNat else -1) = rl_la f n p := by
    unfold rl_la
    by_cases h : p < n
    · rw [if_pos (by omega), if_pos h, Int.toNat_natCast, (h3 p h).1]
    · rw [if_neg (by omega), if_neg h]
  rw [e] at this
  exact this
theorem rl_la_d {f : Nat → Int} {n p : Nat} : (48 ≤ rl_la f n p ∧ rl_la f n p ≤ 57) ↔ (p < n ∧ 48 ≤ f p ∧ f p ≤ 57) := by
  unfold rl_la
  by_cases h : p < n
  · rw [if_pos h]; omega
  · rw [if_neg h]; omega
theorem sp_skip {f : Nat → Int} {n p : Nat} (hT : rl_TX f n m) (hp : p ≤ n) : am_Mt l g 46 [.inr (.inl 18), .inl p] m (am_vq (rl_sk f n p) m) := by
  obtain ⟨h1, h2, h3⟩ := hT
  refine fm_X8_skipBlanks (fun k v1 v2 m' => m' = m ∧ ∃ q : Nat, v2 = q ∧ q ≤ n ∧ rl_sk f n p = rl_sk f n q ∧ k = n - q) ⟨n - p, rfl, rfl, p, rfl, hp, rfl, rfl⟩ ?_
  rintro k v1 v2 m' ⟨rfl, q, rfl, hq, e, rfl⟩
  rw [h1]
  refine ⟨fun h => ⟨?_, rfl⟩, fun h => am_cl (sp_la ⟨h1, h2, h3⟩) ?_⟩
  · rw [e, rl_sk_ge (by omega)]
  · unfold rl_la
    rw [if_pos (by omega)]
    refine ⟨fun h5 => ⟨?_, rfl⟩, fun h5 => ⟨by omega, n - (q + 1), by omega, rfl, rfl, q + 1, by omega, by omega, ?_, rfl⟩⟩
    · rw [e, rl_sk_ne h5]
    · rw [e, rl_sk_32 (by omega) h5]
/-- what readNumber leaves -/
def rl_QN (m : am_Mem) (i : Nat) (r : (Nat × Int) ⊕ (Int × Nat)) : am_Po := fun z m' => (∃ e v, r = .inl (e, v) ∧ z = (e : Int) ∧ m' = am_up m 28 i v) ∨ (∃ c a, r = .inr (c, a) ∧ z = (a : Int) ∧ m' = am_up (am_up m 20 2 c) 20 3 a)
theorem sp_fail {c : Int} {a : Nat} {r : (Nat × Int) ⊕ (Int × Nat)} {i : Nat} (h : r = .inr (c, a)) : am_Mt l g 31 [.inr (.inl 20), .inl c, .inl a] m (rl_QN m i r) := fm_X5_fail (Or.inr ⟨c, a, h, rfl, rfl⟩)
theorem sp_readNumber {f : Nat → Int} {n q k i : Nat} (hT : rl_TX f n m) (hq : q ≤ n) (hk : k < 3) (hi : i < 3) : am_Mt l g 30 [.inr (.inl 20), .inr (.inl 18), .inl q, .inl k, .inl i] m (rl_QN m i (rl_nq f n (am_least (k * 3 + i)) (am_most (k * 3 + i)) q)) := by
  have hT' := hT
  obtain ⟨h1, h2, h3⟩ := hT
  generalize hr : rl_nq f n (am_least (k * 3 + i)) (am_most (k * 3 + i)) q = r
  refine fm_X5_readNumber (fun w v2 v3 v4 v5 v6 m' => m' = m ∧ v2 = q ∧ v3 = k ∧ v4 = i ∧ (q < n ∧ 48 ≤ f q ∧ f q ≤ 57) ∧ ∃ e : Nat, v6 = e ∧ q ≤ e ∧ e ≤ n ∧ rl_sc f n q 0 0 = rl_sc f n e (e - q) v5 ∧ (0 ≤ v5 ∧ v5 ≤ 999) ∧ (e - q = 0 → v5 = 0) ∧ (e - q = 1 → v5 ≤ 9) ∧ (e - q = 2 → v5 ≤ 99) ∧ w = n - e) (am_cl (sp_la hT') (am_cbn (sp_isFigure _) (fun h => ⟨n - q, rfl, rfl, rfl, rfl, rfl, rfl, rl_la_d.mp h, q, rfl, Nat.le_refl _, hq, by rw [Nat.sub_self], by omega, fun _ => rfl, fun _ => by omega, fun _ => by omega, rfl⟩) (fun h => am_cq (sp_fail (r := r) (i := i) ?_) (fun z m' hz => hz)))) ?_
  · rw [← hr]; unfold rl_nq; rw [if_neg (fun hh => h (rl_la_d.mpr hh))]
  · rintro w v2 v3 v4 v5 v6 m' ⟨rfl, rfl, rfl, rfl, hd, e, rfl, he, hen, hsc, hv, hv0, hv1, hv2, rfl⟩
    have e3 : ((k : Int) * 3 + (i : Int)).toNat = k * 3 + i := by omega
    have hr0 : rl_sc f n q 0 0 = (e, v5) → r = if e - q ≤ 3 ∧ am_least (k * 3 + i) ≤ v5 ∧ v5 ≤ am_most (k * 3 + i) then .inl (e, v5) else .inr (2, q) := fun hes => by
      rw [← hr]; unfold rl_nq; rw [if_pos hd, hes]
    rw [h1]
    refine ⟨fun h => ?_, fun h => am_cl (sp_la hT') ?_⟩
    · have hr' := hr0 (by rw [hsc, rl_sc_ge (by omega)])
      refine ⟨by omega, by omega, fun h => by omega, fun _ => ⟨fun h => by omega, fun _ => ⟨fun h => by omega, fun _ => ⟨fun _ => ⟨by omega, fun h => am_cq (sp_fail (r := r) (i := i) ?_) (fun z m' hz => hz), fun h => ⟨by omega, by omega, ?_⟩⟩, fun h => by omega⟩⟩⟩⟩
      · rw [hr', if_neg (by omega)]
      · rw [e3, Int.toNat_natCast]
        refine am_cbn (sp_within _ _ _) (fun hw => ⟨by omega, Or.inl ⟨e, v5, ?_, rfl, rfl⟩⟩) (fun hw => am_cq (sp_fail (r := r) (i := i) ?_) (fun z m' hz => hz))
        · rw [hr', if_pos ⟨by omega, hw⟩]
        · rw [hr', if_neg (fun hh => hw hh.2)]
    · have ela : rl_la f n e = f e := by unfold rl_la; rw [if_pos (by omega)]
      refine am_cbe (sp_isFigure _) (fun hg => ?_) (fun hg => ?_)
      · rw [ela] at hg
        have hs := rl_sc_d (c := e - q) (v := v5) (show e < n by omega) hg
        refine ⟨by omega, fun h5 => ⟨by omega, n - (e + 1), by omega, rfl, rfl, rfl, rfl, rfl, rfl, hd, e + 1, by omega, by omega, by omega, ?_, hv, fun h => by omega, fun h => by omega, fun h => by omega, rfl⟩, fun h5 => ⟨by omega, am_cl (sp_la hT') ?_⟩⟩
        · rw [hsc, hs, if_neg (by omega), show e + 1 - q = e - q + 1 by omega]
        · rw [ela]
          refine ⟨by omega, by omega, by omega, n - (e + 1), by omega, rfl, rfl, rfl, rfl, rfl, rfl, hd, e + 1, by omega, by omega, by omega, ?_, by omega, fun h => by omega, fun h => by omega, fun h => by omega, rfl⟩
          rw [hsc, hs, if_pos (by omega), show e + 1 - q = e - q + 1 by omega, Int.mul_comm 10]
      · have hr' := hr0 (by rw [hsc, rl_sc_n (by rw [← ela]; exact hg)])
        refine ⟨by omega, by omega, fun h => by omega, fun _ => ⟨fun h => by omega, fun _ => ⟨fun h => by omega, fun _ => ⟨fun _ => ⟨by omega, fun h => am_cq (sp_fail (r := r) (i := i) ?_) (fun z m' hz => hz), fun h => ⟨by omega, by omega, ?_⟩⟩, fun h => by omega⟩⟩⟩⟩
        · rw [hr', if_neg (by omega)]
        · rw [e3, Int.toNat_natCast]
          refine am_cbn (sp_within _ _ _) (fun hw => ⟨by omega, Or.inl ⟨e, v5, ?_, rfl, rfl⟩⟩) (fun hw => am_cq (sp_fail (r := r) (i := i) ?_) (fun z m' hz => hz))
          · rw [hr', if_pos ⟨by omega, hw⟩]
          · rw [hr', if_neg (fun hh => hw hh.2)]
end RD
