/-- the first of n that is so -/
def rl_fst (P : Nat → Prop) (n : Nat) (z : Int) : Prop := (z = -1 ∧ ∀ k, k < n → ¬ P k) ∨ ∃ k, k < n ∧ z = (k : Int) ∧ P k ∧ ∀ j, j < k → ¬ P j
theorem rl_fst_un {P P' : Nat → Prop} {n : Nat} {z z' : Int} (hp : ∀ k, k < n → (P k ↔ P' k)) (h : rl_fst P n z) (h' : rl_fst P' n z') : z' = z := by
  rcases h with ⟨rfl, h⟩ | ⟨k, hk, rfl, h1, h2⟩ <;> rcases h' with ⟨rfl, h'⟩ | ⟨k', hk', rfl, h1', h2'⟩
  · rfl
  · exact absurd ((hp k' hk').mpr h1') (h k' hk')
  · exact absurd ((hp k hk).mp h1) (h' k hk)
  · rcases Nat.lt_trichotomy k k' with a | a | a
    · exact absurd ((hp k hk).mp h1) (h2' k a)
    · rw [a]
    · exact absurd ((hp k' hk').mpr h1') (h2 k' a)
/-- what is seen of a cord fits a tightness: held / not -/
def rl_sh (mem : am_Mem) (c n : Nat) (ti : Int) : Prop := ∀ k : Nat, k < n → mem 47 k = c → ¬ mem 50 k = 0 → rl_wh mem c ti (mem 48 k + mem 49 k)
def rl_sn (mem : am_Mem) (c n : Nat) (ti : Int) : Prop := ∀ k : Nat, k < n → mem 47 k = c → mem 50 k = 0 → ¬ rl_wh mem c ti (mem 48 k + mem 49 k)
theorem rl_sh_s {mem : am_Mem} {c n : Nat} {ti : Int} : rl_sh mem c (n + 1) ti ↔ rl_sh mem c n ti ∧ (mem 47 n = c → ¬ mem 50 n = 0 → rl_wh mem c ti (mem 48 n + mem 49 n)) := by
  constructor
  · exact fun h => ⟨fun k hk => h k (by omega), h n (by omega)⟩
  · intro h k hk
    by_cases e : k = n
    · subst e; exact h.2
    · exact h.1 k (by omega)
theorem rl_sn_s {mem : am_Mem} {c n : Nat} {ti : Int} : rl_sn mem c (n + 1) ti ↔ rl_sn mem c n ti ∧ (mem 47 n = c → mem 50 n = 0 → ¬ rl_wh mem c ti (mem 48 n + mem 49 n)) := by
  constructor
  · exact fun h => ⟨fun k hk => h k (by omega), h n (by omega)⟩
  · intro h k hk
    by_cases e : k = n
    · subst e; exact h.2
    · exact h.1 k (by omega)
def rl_seenok (mem : am_Mem) : Prop := (0 ≤ mem 46 4 ∧ mem 46 4 ≤ 6) ∧ ∀ k : Nat, (k : Int) < mem 46 4 → (10 ≤ mem 48 k ∧ mem 48 k ≤ 70) ∧ (0 ≤ mem 49 k ∧ mem 49 k ≤ 30)
section SPF
variable {l : Launch} {g : am_G} {mem : am_Mem} {t : Int}
theorem sp_leastTight {c : Nat} (hX : rl_X t mem) (hs : rl_seenok mem) (hc : (c : Int) < mem 29 4) : am_Mt l g 42 [.inr (.inl 46), .inr (.inl 29), .inr (.inl 36), .inl c] mem (fun z m => m = mem ∧ 0 ≤ z ∧ z ≤ 100 ∧ ∀ ti, 0 ≤ ti → ti ≤ 99 → (rl_sh mem c (mem 46 4).toNat ti ↔ z ≤ ti)) := by
  have h46 := hs.1
  refine fm_X7_leastTight (fun n v3 v4 v5 m => m = mem ∧ v3 = c ∧ ∃ k : Nat, v5 = k ∧ (k : Int) ≤ mem 46 4 ∧ (0 ≤ v4 ∧ v4 ≤ 100 ∧ ∀ ti, 0 ≤ ti → ti ≤ 99 → (rl_sh mem c k ti ↔ v4 ≤ ti)) ∧ n = 6 - k) ⟨6, rfl, rfl, rfl, rfl, rfl, 0, rfl, h46.1, ⟨by omega, by omega, fun ti h1 h2 => ⟨fun _ => h1, fun _ k hk => by omega⟩⟩, rfl⟩ ?_
  rintro n v3 v4 v5 m ⟨rfl, rfl, k, rfl, hk, hv, rfl⟩
  refine ⟨fun h => ⟨rfl, ?_⟩, fun h => ⟨fun h2 => by omega, fun h2 => ⟨by omega, ?_⟩⟩⟩
  · rw [show (m 46 4).toNat = k by omega]; exact hv
  · rw [Int.toNat_natCast]
    have hsk := hs.2 k h
    refine ⟨fun h3 => ⟨by omega, 6 - (k + 1), by omega, rfl, rfl, rfl, rfl, rfl, k + 1, by omega, by omega, ⟨hv.1, hv.2.1, fun ti h4 h5 => ?_⟩, rfl⟩, fun h3 => ⟨by omega, fun h4 => ⟨by omega, 6 - (k + 1), by omega, rfl, rfl, rfl, rfl, rfl, k + 1, by omega, by omega, ⟨hv.1, hv.2.1, fun ti h5 h6 => ?_⟩, rfl⟩, fun h4 => ⟨by omega, by omega, am_cq (sp_tightToHold hX hc (by omega) (by omega)) ?_⟩⟩⟩
    · rw [rl_sh_s, hv.2.2 ti h4 h5]
      exact ⟨fun h => h.1, fun h => ⟨h, fun h6 => absurd h6 h3⟩⟩
    · rw [rl_sh_s, hv.2.2 ti h5 h6]
      exact ⟨fun h => h.1, fun h => ⟨h, fun _ h7 => absurd h4 h7⟩⟩
    · rintro z m' ⟨rfl, z0, z1, z2⟩
      refine am_cl (sp_max _ _) ⟨by omega, 6 - (k + 1), by omega, rfl, rfl, rfl, rfl, rfl, k + 1, by omega, by omega, ⟨by omega, by omega, fun ti h5 h6 => ?_⟩, rfl⟩
      rw [rl_sh_s, hv.2.2 ti h5 h6]
      constructor
      · rintro ⟨ha, hb⟩
        have := (z2 ti h5 h6).mp (hb h3 h4)
        omega
      · intro ha
        exact ⟨by omega, fun _ _ => (z2 ti h5 h6).mpr (by omega)⟩
theorem sp_mostTight {c : Nat} (hX : rl_X t mem) (hs : rl_seenok mem) (hc : (c : Int) < mem 29 4) : am_Mt l g 43 [.inr (.inl 46), .inr (.inl 29), .inr (.inl 36), .inl c] mem (fun z m => m = mem ∧ -1 ≤ z ∧ z ≤ 99 ∧ ∀ ti, 0 ≤ ti → ti ≤ 99 → (rl_sn mem c (mem 46 4).toNat ti ↔ ti ≤ z)) := by
  have h46 := hs.1
  refine fm_X7_mostTight (fun n v3 v4 v5 m => m = mem ∧ v3 = c ∧ ∃ k : Nat, v5 = k ∧ (k : Int) ≤ mem 46 4 ∧ (-1 ≤ v4 ∧ v4 ≤ 99 ∧ ∀ ti, 0 ≤ ti → ti ≤ 99 → (rl_sn mem c k ti ↔ ti ≤ v4)) ∧ n = 6 - k) ⟨6, rfl, rfl, rfl, rfl, rfl, 0, rfl, h46.1, ⟨by omega, by omega, fun ti h1 h2 => ⟨fun _ => h2, fun _ k hk => by omega⟩⟩, rfl⟩ ?_
  rintro n v3 v4 v5 m ⟨rfl, rfl, k, rfl, hk, hv, rfl⟩
  refine ⟨fun h => ⟨rfl, ?_⟩, fun h => ⟨fun h2 => by omega, fun h2 => ⟨by omega, ?_⟩⟩⟩
  · rw [show (m 46 4).toNat = k by omega]; exact hv
  · rw [Int.toNat_natCast]
    have hsk := hs.2 k h
    refine ⟨fun h3 => ⟨by omega, 6 - (k + 1), by omega, rfl, rfl, rfl, rfl, rfl, k + 1, by omega, by omega, ⟨hv.1, hv.2.1, fun ti h4 h5 => ?_⟩, rfl⟩, fun h3 => ⟨by omega, fun h4 => ⟨by omega, 6 - (k + 1), by omega, rfl, rfl, rfl, rfl, rfl, k + 1, by omega, by omega, ⟨hv.1, hv.2.1, fun ti h5 h6 => ?_⟩, rfl⟩, fun h4 => ⟨by omega, by omega, am_cq (sp_tightToHold hX hc (by omega) (by omega)) ?_⟩⟩⟩
    · rw [rl_sn_s, hv.2.2 ti h4 h5]
      exact ⟨fun h => h.1, fun h => ⟨h, fun h6 => absurd h6 h3⟩⟩
    · rw [rl_sn_s, hv.2.2 ti h5 h6]
      exact ⟨fun h => h.1, fun h => ⟨h, fun _ h7 => absurd h7 h4⟩⟩
    · rintro z m' ⟨rfl, z0, z1, z2⟩
      refine ⟨by omega, am_cl (sp_min _ _) ⟨by omega, 6 - (k + 1), by omega, rfl, rfl, rfl, rfl, rfl, k + 1, by omega, by omega, ⟨by omega, by omega, fun ti h5 h6 => ?_⟩, rfl⟩⟩
      rw [rl_sn_s, hv.2.2 ti h5 h6]
      constructor
      · rintro ⟨ha, hb⟩
        have : ¬ z ≤ ti := fun q => hb h3 h4 ((z2 ti h5 h6).mpr q)
        omega
      · intro ha
        exact ⟨by omega, fun _ _ q => by have := (z2 ti h5 h6).mp q; omega⟩
theorem sp_firstWrong (h0 : 0 ≤ mem 51 2) (h1 : mem 51 2 ≤ 20) (hc : ∀ k : Nat, (k : Int) < mem 51 2 → 0 ≤ mem 52 k ∧ mem 52 k < 4) : am_Mt l g 1 [.inr (.inl 51), .inr (.inl 36)] mem (fun z m => m = mem ∧ rl_fst (fun k => ¬ mem 38 (mem 52 k).toNat = mem 53 k) (mem 51 2).toNat z) := by
  refine fm_X0_firstWrong (fun n v2 m => m = mem ∧ ∃ k : Nat, v2 = k ∧ (k : Int) ≤ mem 51 2 ∧ (∀ j, j < k → mem 38 (mem 52 j).toNat = mem 53 j) ∧ n = 20 - k) ⟨20, rfl, rfl, rfl, 0, rfl, h0, fun j hj => by omega, rfl⟩ ?_
  rintro n v2 m ⟨rfl, k, rfl, hk, hv, rfl⟩
  refine ⟨fun h => ⟨rfl, Or.inl ⟨rfl, fun j hj => fun q => q (hv j (by omega))⟩⟩, fun h => ⟨fun h2 => by omega, fun h2 => ⟨by omega, ?_⟩⟩⟩
  rw [Int.toNat_natCast]
  have := hc k h
  refine ⟨fun h3 => by omega, fun h3 => ⟨fun h4 => by omega, fun h4 => ⟨by omega, by omega, fun h5 => ⟨by omega, 20 - (k + 1), by omega, rfl, rfl, rfl, k + 1, by omega, by omega, fun j hj => ?_, rfl⟩, fun h5 => ⟨rfl, Or.inr ⟨k, by omega, rfl, h5, fun j hj q => q (hv j hj)⟩⟩⟩⟩⟩
  by_cases e : j = k
  · subst e; exact h5
  · exact hv j (by omega)
end SPF
/-- one mile of a trip: kept first, drawn, then driven (z = 1) or lost (z = 0) -/
def rl_m1 (mem : am_Mem) (dr : Int) : am_Mem := if dr = 0 then rl_push mem else am_up (rl_push mem) 17 10 (rl_dr (mem 17 10))
def rl_mo (mem : am_Mem) (dr : Int) : Int := if dr = 0 then 0 else rl_dr (mem 17 10) / 65536 % 11
def rl_go (pa dr : Int) : Nat → am_Mem → Int → am_Mem → Prop
  | 0, mem, k, m => k = 0 ∧ m = mem
  | n + 1, mem, k, m => (∃ m1, rl_Qm (rl_m1 mem dr) pa (rl_mo mem dr) 1 m1 ∧ rl_go pa dr n m1 (k - 1) m) ∨ (rl_Qm (rl_m1 mem dr) pa (rl_mo mem dr) 0 m ∧ k = 0)
