theorem rl_rdF_in {ml : Nat → Int} {x : Int} : ∀ (k r : Nat), x < rl_sm (r + k) ml → (∀ i, i < r + k → 0 ≤ ml i) → (k = 0 → False) ∨ rl_sm r ml ≤ x → (r : Int) ≤ rl_rdF k r (rl_sm r ml) ml x ∧ rl_rdF k r (rl_sm r ml) ml x < r + k ∨ (k = 0 ∧ x < rl_sm r ml)
  | 0, r, h, _, _ => Or.inr ⟨rfl, h⟩
  | k + 1, r, h, hp, _ => by
    refine Or.inl ?_
    rw [rl_rdF]
    by_cases e : x < rl_sm r ml + ml r
    · rw [if_pos e]; omega
    · rw [if_neg e]
      have hk : rl_sm r ml + ml r = rl_sm (r + 1) ml := rfl
      rw [hk]
      have := rl_rdF_in (ml := ml) (x := x) k (r + 1) (by rw [show r + 1 + k = r + (k + 1) by omega]; exact h) (fun i hi => hp i (by omega)) (Or.inr (by rw [← hk]; omega))
      rcases this with h1 | h1
      · omega
      · rw [hk] at e; omega
theorem rl_rd_in {ml : Nat → Int} {x : Int} {nr : Nat} (h : x < rl_sm nr ml) (h0 : 0 ≤ x) (hp : ∀ i, i < nr → 0 ≤ ml i) : 0 ≤ rl_rd nr ml x ∧ rl_rd nr ml x < nr := by
  have := rl_rdF_in (ml := ml) (x := x) nr 0 (by simpa using h) (fun i hi => hp i (by omega)) (Or.inr (by simpa [rl_sm] using h0))
  unfold rl_rd
  rcases this with h1 | h1
  · simp only [rl_sm] at h1; omega
  · simp only [rl_sm] at h1; omega
theorem rl_rd_cg {f h : Nat → Int} {x : Int} : ∀ (k r : Nat) (e : Int), (∀ i, i < r + k → f i = h i) → rl_rdF k r e f x = rl_rdF k r e h x
  | 0, r, e, _ => rfl
  | k + 1, r, e, H => by rw [rl_rdF, rl_rdF, H r (by omega), rl_rd_cg k (r + 1) _ (fun i hi => H i (by omega))]
def rl_lost (mem : am_Mem) : am_Mem := am_up (am_up mem 36 4 1) 36 3 (mem 36 3 + 1)
def rl_slk (mem : am_Mem) (n : Nat) : am_Mem := am_st (am_st mem 38 (fun i => if i < n then rl_tb 1 (mem 38 i) (mem 39 i) (mem 32 i) else mem 38 i)) 39 (fun i => if i < n then mem 39 i + 1 else mem 39 i)
theorem rl_slk_0 (mem : am_Mem) : rl_slk mem 0 = mem := by
  funext k i; simp only [rl_slk, am_st]; grind
def rl_drv (mem : am_Mem) (own : Int) : am_Mem := rl_slk (am_up (am_up mem 36 2 (mem 36 2 + 3600 / own)) 36 1 (mem 36 1 + 1)) (mem 29 4).toNat
/-- the road on which one is -/
def rl_ro (mem : am_Mem) : Nat := (rl_rd (mem 29 5).toNat (mem 33) (mem 36 1)).toNat
/-- it holds now at v -/
def rl_hn (mem : am_Mem) (v : Int) : Prop := rl_ok (mem 29 2) (rl_hf (mem 29 4).toNat (mem 36 0) (mem 37) (mem 38)) (rl_hb (mem 29 4).toNat (mem 36 0) (mem 37) (mem 38)) v
def rl_Qm (mem : am_Mem) (pa mo : Int) : am_Po := fun z m => (rl_hn mem (min pa (mem 34 (rl_ro mem)) + (mem 35 (rl_ro mem) + mo)) ∧ z = 1 ∧ m = rl_drv mem (min pa (mem 34 (rl_ro mem)))) ∨ (¬ rl_hn mem (min pa (mem 34 (rl_ro mem)) + (mem 35 (rl_ro mem) + mo)) ∧ z = 0 ∧ m = rl_lost mem)
section SPD
variable {l : Launch} {g : am_G} {mem : am_Mem} {t : Int}
theorem rl_ro_in (hX : rl_X t mem) (hd : mem 36 1 < rl_am mem) : (rl_rd (mem 29 5).toNat (mem 33) (mem 36 1)) = (rl_ro mem : Int) ∧ ((rl_ro mem : Nat) : Int) < mem 29 5 := by
  have hN := rl_X_now hX
  have h5 := hX.1.2.2.2.2.1
  have := rl_rd_in (ml := mem 33) (x := mem 36 1) (nr := (mem 29 5).toNat) hd hN.2.1.1 (fun i hi => (rl_hm hX.1 i (by omega)).1)
  unfold rl_ro
  omega
theorem rl_3600 {own : Int} (h : 10 ≤ own) (h' : own ≤ 70) : 0 ≤ 3600 / own ∧ 3600 / own ≤ 360 := by
  constructor
  · exact Int.ediv_nonneg (by omega) (by omega)
  · have : 3600 / own ≤ 3600 / 10 := by
      apply Int.ediv_le_of_le_mul (by omega)
      have : 3600 / 10 * own ≥ 360 * 10 := by omega
      omega
    omega
theorem sp_mile {pa mo : Int} (hX : rl_X t mem) (ht : t ≤ 1000) (hd : mem 36 1 < rl_am mem) (hp : 10 ≤ pa) (hp' : pa ≤ 70) (hm : 0 ≤ mo) (hm' : mo ≤ 10) : am_Mt l g 12 [.inr (.inl 36), .inr (.inl 29), .inl pa, .inl mo] mem (rl_Qm mem pa mo) := by
  obtain ⟨p0, p2, p3, p4, p5, pc, pr, -⟩ := id hX.1
  have hN := rl_X_now hX
  have ha := rl_am_bd hX.1
  obtain ⟨e1, e2⟩ := rl_ro_in hX hd
  have hr := pr _ e2
  have h36 := rl_3600 (own := min pa (mem 34 (rl_ro mem))) (by omega) (by omega)
  refine fm_X3_mile (fun n v2 v3 v4 v5 v6 v7 m => rl_hn mem (min pa (mem 34 (rl_ro mem)) + (mem 35 (rl_ro mem) + mo)) ∧ ∃ c : Nat, v7 = c ∧ (c : Int) ≤ mem 29 4 ∧ m = rl_slk (am_up (am_up mem 36 2 (mem 36 2 + 3600 / (min pa (mem 34 (rl_ro mem))))) 36 1 (mem 36 1 + 1)) c ∧ n = 4 - c) ?_ ?_
  · refine am_cl (sp_roadBehind p5.1 p5.2 (rl_hm hX.1)) ?_
    rw [e1]
    refine am_cbn (sp_hasRoad p5.2) (fun _ => ⟨by omega, ?_⟩) (fun h => absurd ⟨by omega, e2⟩ h)
    rw [Int.toNat_natCast]
    refine am_cl (sp_min _ _) ⟨by omega, by omega, am_cl (sp_liftFront p2.1 p2.2 (by omega) (by omega)) (am_cl (sp_holdF hX) ⟨fun h1 => ⟨?_, ?_, ?_⟩, fun h1 => am_cl (sp_liftBack p2.1 p2.2 (by omega) (by omega)) (am_cl (sp_holdB hX) ⟨fun h2 => ⟨fun h3 => by omega, fun h3 => ⟨by omega, by omega, ?_, 4, rfl, rfl, ⟨h1, h2⟩, 0, rfl, by omega, ?_, rfl⟩⟩, fun h2 => ⟨?_, ?_, ?_⟩⟩)⟩)⟩
    · show _ ≤ mem 36 3 + 1 ∧ mem 36 3 + 1 ≤ _; omega
    · exact Or.inl rfl
    · exact Or.inr ⟨fun h => by have := h.1; omega, rfl, rfl⟩
    · show _ ≤ mem 36 1 + 1 ∧ mem 36 1 + 1 ≤ _; omega
    · exact (rl_slk_0 _).symm
    · show _ ≤ mem 36 3 + 1 ∧ mem 36 3 + 1 ≤ _; omega
    · exact Or.inl rfl
    · exact Or.inr ⟨fun h => by have := h.2; omega, rfl, rfl⟩
  · rintro n v2 v3 v4 v5 v6 v7 m ⟨hh, c, rfl, hc, rfl, rfl⟩
    generalize hM : am_up (am_up mem 36 2 (mem 36 2 + 3600 / (min pa (mem 34 (rl_ro mem))))) 36 1 (mem 36 1 + 1) = M
    have e4 : rl_slk M c 29 4 = mem 29 4 := by subst hM; rfl
    have e32 : rl_slk M c 32 = mem 32 := by subst hM; rfl
    have e38 : rl_slk M c 38 c = mem 38 c := by subst hM; simp [rl_slk, am_st, am_up]
    have e39 : rl_slk M c 39 c = mem 39 c := by subst hM; simp [rl_slk, am_st, am_up]
    rw [e4]
    refine ⟨fun h => am_R1 (Or.inl ⟨hh, rfl, ?_⟩), fun h => ⟨fun h2 => by omega, fun h2 => ⟨by omega, by omega, by omega, ?_⟩⟩⟩
    · rw [show c = (mem 29 4).toNat by omega, ← hM]; rfl
    · have h1 := rl_X_c hX h
      have h3 := pc c h
      rw [Int.toNat_natCast, e38, e39, e32]
      have e5 : am_up (rl_slk M c) 38 c (rl_tb 1 (mem 38 c) (mem 39 c) (mem 32 c)) 39 c = mem 39 c := by simp [am_up, e39]
      refine am_cl (sp_tightBehind (by omega) (by omega) h1.2.1.1 h1.2.1.2 h1.2.2.1 (by omega) h3.2.2.1 h3.2.2.2) ⟨by omega, by omega, ?_⟩
      try rw [e5]
      try rw [e39]
      refine ⟨by omega, by omega, by omega, 4 - (c + 1), by omega, rfl, rfl, hh, c + 1, by omega, by omega, ?_, rfl⟩
      have e6 : M 38 = mem 38 := by subst hM; rfl
      have e7 : M 39 = mem 39 := by subst hM; rfl
      have e8 : M 32 = mem 32 := by subst hM; rfl
      funext k i
      simp only [rl_slk, am_st, am_up, e6, e7, e8]
      grind
end SPD
