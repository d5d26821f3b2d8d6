/-- Now is kept in a row / a row is Now again -/
def rl_sv (mem : am_Mem) (rows a : Nat) : am_Mem := am_st mem rows (fun i => if a ≤ i ∧ i < a + 17 then rl_xw mem (i - a) else mem rows i)
def rl_ld (mem : am_Mem) (f : Nat → Int) : am_Mem := am_st (am_st (am_st (am_st mem 36 (fun i => if i < 5 then f i else mem 36 i)) 37 (fun i => if i < 4 then f (5 + i) else mem 37 i)) 38 (fun i => if i < 4 then f (9 + i) else mem 38 i)) 39 (fun i => if i < 4 then f (13 + i) else mem 39 i)
theorem rl_n1 (a : Nat) : ((a : Int) + 1).toNat = a + 1 := by omega
theorem rl_n2 (a : Nat) : ((a : Int) + 2).toNat = a + 2 := by omega
theorem rl_n3 (a : Nat) : ((a : Int) + 3).toNat = a + 3 := by omega
theorem rl_n4 (a : Nat) : ((a : Int) + 4).toNat = a + 4 := by omega
theorem rl_n5 (a : Nat) : ((a : Int) + 5).toNat = a + 5 := by omega
theorem rl_n9 (a : Nat) : ((a : Int) + 5 + 4).toNat = a + 9 := by omega
theorem rl_n13 (a : Nat) : ((a : Int) + 5 + 8).toNat = a + 13 := by omega
theorem rl_t0 : (0 : Int).toNat = 0 := rfl
theorem rl_t4 : (4 : Int).toNat = 4 := rfl
section SPE
variable {l : Launch} {g : am_G} {mem : am_Mem} {t : Int}
theorem rl_sv_eq {rows a : Nat} (hr : rows = 41 ∨ rows = 43) : am_cp (am_cp (am_cp (am_up (am_up (am_up (am_up (am_up mem rows a (mem 36 0)) rows (a + 1) (mem 36 1)) rows (a + 2) (mem 36 2)) rows (a + 3) (mem 36 3)) rows (a + 4) (mem 36 4)) 37 0 rows (a + 5) 4) 38 0 rows (a + 9) 4) 39 0 rows (a + 13) 4 = rl_sv mem rows a := by
  funext k i
  rcases hr with rfl | rfl <;> simp only [am_cp, am_up, rl_sv, am_st, rl_xw] <;> grind
set_option maxHeartbeats 1000000 in
theorem sp_save_d {a : Nat} {x : Int} (hx : x = a) (h : a ≤ 493) : am_Mt l g 14 [.inr (.inl 36), .inr (.inl 41), .inl x] mem (am_vq 0 (rl_sv mem 41 a)) := by
  subst hx
  refine fm_X3_save_d ⟨fun h => by omega, fun _ => ⟨by omega, fun _ => ⟨by omega, by omega, by omega, by omega, by omega, by omega, by omega, by omega, by omega, by omega, by omega, by omega, by omega, by omega, by omega, by omega, by omega, rfl, ?_⟩, fun h => by omega⟩⟩
  rw [Int.toNat_natCast, rl_n1, rl_n2, rl_n3, rl_n4, rl_n5, rl_n9, rl_n13]
  exact rl_sv_eq (Or.inl rfl)
set_option maxHeartbeats 1000000 in
theorem sp_save_i {a : Nat} {x : Int} (hx : x = a) (h : a ≤ 17) : am_Mt l g 14 [.inr (.inl 36), .inr (.inl 43), .inl x] mem (am_vq 0 (rl_sv mem 43 a)) := by
  subst hx
  refine fm_X3_save_i ⟨fun h => by omega, fun _ => ⟨by omega, fun _ => ⟨by omega, by omega, by omega, by omega, by omega, by omega, by omega, by omega, by omega, by omega, by omega, by omega, by omega, by omega, by omega, by omega, by omega, rfl, ?_⟩, fun h => by omega⟩⟩
  rw [Int.toNat_natCast, rl_n1, rl_n2, rl_n3, rl_n4, rl_n5, rl_n9, rl_n13]
  exact rl_sv_eq (Or.inr rfl)
theorem rl_ld_eq {rows a : Nat} (hr : rows = 41 ∨ rows = 43) : am_cp (am_cp (am_cp (am_up (am_up (am_up (am_up (am_up mem 36 0 (mem rows a)) 36 1 (mem rows (a + 1))) 36 2 (mem rows (a + 2))) 36 3 (mem rows (a + 3))) 36 4 (mem rows (a + 4))) rows (a + 5) 37 0 4) rows (a + 9) 38 0 4) rows (a + 13) 39 0 4 = rl_ld mem (fun k => mem rows (a + k)) := by
  funext k i
  simp only [rl_ld, am_st]
  by_cases h36 : k = 36
  · subst h36
    rcases hr with rfl | rfl <;> simp only [am_cp, am_up] <;> grind
  · by_cases h37 : k = 37
    · subst h37
      rcases hr with rfl | rfl <;> simp only [am_cp, am_up] <;> grind
    · by_cases h38 : k = 38
      · subst h38
        rcases hr with rfl | rfl <;> simp only [am_cp, am_up] <;> grind
      · by_cases h39 : k = 39
        · subst h39
          rcases hr with rfl | rfl <;> simp only [am_cp, am_up] <;> grind
        · simp [am_cp, am_up, h36, h37, h38, h39]
set_option maxHeartbeats 1000000 in
theorem sp_load_d {a : Nat} {x : Int} (hx : x = a) (h : a ≤ 493) : am_Mt l g 15 [.inr (.inl 36), .inr (.inl 41), .inl x] mem (am_vq 0 (rl_ld mem (fun k => mem 41 (a + k)))) := by
  subst hx
  refine fm_X3_load_d ⟨fun h => by omega, fun _ => ⟨by omega, fun _ => ⟨by omega, by omega, by omega, by omega, by omega, by omega, by omega, by omega, by omega, by omega, by omega, by omega, by omega, by omega, by omega, by omega, by omega, rfl, ?_⟩, fun h => by omega⟩⟩
  rw [Int.toNat_natCast, rl_n1, rl_n2, rl_n3, rl_n4, rl_n5, rl_n9, rl_n13]
  exact rl_ld_eq (Or.inl rfl)
set_option maxHeartbeats 1000000 in
theorem sp_load_i {a : Nat} {x : Int} (hx : x = a) (h : a ≤ 17) : am_Mt l g 15 [.inr (.inl 36), .inr (.inl 43), .inl x] mem (am_vq 0 (rl_ld mem (fun k => mem 43 (a + k)))) := by
  subst hx
  refine fm_X3_load_i ⟨fun h => by omega, fun _ => ⟨by omega, fun _ => ⟨by omega, by omega, by omega, by omega, by omega, by omega, by omega, by omega, by omega, by omega, by omega, by omega, by omega, by omega, by omega, by omega, by omega, rfl, ?_⟩, fun h => by omega⟩⟩
  rw [Int.toNat_natCast, rl_n1, rl_n2, rl_n3, rl_n4, rl_n5, rl_n9, rl_n13]
  exact rl_ld_eq (Or.inr rfl)
/-- a deed is kept -/
def rl_push (mem : am_Mem) : am_Mem := am_up (am_up (rl_sv mem 41 (17 * (mem 40 1).toNat)) 40 1 ((mem 40 1 + 1) % 30)) 40 2 (min (mem 40 2 + 1) 30)
theorem sp_push (h0 : 0 ≤ mem 40 1) (h1 : mem 40 1 < 30) (h2 : 0 ≤ mem 40 2) (h3 : mem 40 2 ≤ 30) : am_Mt l g 3 [.inr (.inl 40), .inr (.inl 36)] mem (am_vq 0 (rl_push mem)) := by
  refine fm_X1_push ⟨by omega, am_cl (sp_save_d (a := 17 * (mem 40 1).toNat) (by omega) (by omega)) ?_⟩
  generalize hM : rl_sv mem 41 (17 * (mem 40 1).toNat) = M
  have e1 : M 40 1 = mem 40 1 := by subst hM; rfl
  have e2 : M 40 2 = mem 40 2 := by subst hM; rfl
  have e3 : ∀ x, am_up M 40 1 x 40 2 = mem 40 2 := fun x => by subst hM; rfl
  rw [e1]
  refine ⟨by omega, by omega, fun _ => ?_, fun h => by omega⟩
  try rw [e3]
  try rw [e2]
  refine ⟨by omega, am_cl (sp_min _ _) ⟨rfl, ?_⟩⟩
  rw [← hM]; rfl
/-- the n latest are undone -/
def rl_pop (mem : am_Mem) (n : Int) : am_Mem := rl_ld (am_up (am_up mem 40 1 ((mem 40 1 - n) % 30)) 40 2 (mem 40 2 - n)) (fun k => mem 41 (17 * ((mem 40 1 - n) % 30).toNat + k))
theorem sp_pop {n : Int} (h0 : 0 ≤ mem 40 1) (h1 : mem 40 1 < 30) (h3 : mem 40 2 ≤ 30) (hn : 1 ≤ n) (hn' : n ≤ mem 40 2) : am_Mt l g 4 [.inr (.inl 40), .inr (.inl 36), .inl n] mem (am_vq 0 (rl_pop mem n)) := by
  refine fm_X1_pop ⟨fun h => by omega, fun _ => ⟨fun _ => ⟨by omega, am_cl (sp_floorMod (by omega) (by omega)) ?_⟩, fun h => by omega⟩⟩
  have e1 : am_up mem 40 1 ((mem 40 1 - n) % 30) 40 2 = mem 40 2 := rfl
  try rw [e1]
  have e2 : am_up (am_up mem 40 1 ((mem 40 1 - n) % 30)) 40 2 (mem 40 2 - n) 40 1 = (mem 40 1 - n) % 30 := rfl
  try rw [e2]
  refine ⟨by omega, by omega, am_cl (sp_load_d (a := 17 * ((mem 40 1 - n) % 30).toNat) (by omega) (by omega)) ⟨rfl, rfl⟩⟩
theorem sp_dforget : am_Mt l g 2 [.inr (.inl 40)] mem (am_vq 0 (am_up mem 40 2 0)) := fm_X1_forget ⟨rfl, rfl⟩
theorem sp_iforget : am_Mt l g 5 [.inr (.inl 42)] mem (am_vq 0 (am_up (am_up mem 45 0 0) 45 1 0)) := by
  refine fm_X2_forget (fun n v1 m => (v1 = 0 ∧ m = mem ∧ n = 2) ∨ (v1 = 1 ∧ m = am_up mem 45 0 0 ∧ n = 1) ∨ (v1 = 2 ∧ m = am_up (am_up mem 45 0 0) 45 1 0 ∧ n = 0)) ⟨2, rfl, Or.inl ⟨rfl, rfl, rfl⟩⟩ ?_
  rintro n v1 m (⟨rfl, rfl, rfl⟩ | ⟨rfl, rfl, rfl⟩ | ⟨rfl, rfl, rfl⟩)
  · exact ⟨fun h => by omega, fun h => ⟨⟨by omega, Or.inl rfl⟩, by omega, 1, by omega, rfl, Or.inr (Or.inl ⟨rfl, rfl, rfl⟩)⟩⟩
  · exact ⟨fun h => by omega, fun h => ⟨⟨by omega, Or.inl rfl⟩, by omega, 0, by omega, rfl, Or.inr (Or.inr ⟨rfl, rfl, rfl⟩)⟩⟩
  · exact ⟨fun h => ⟨rfl, rfl⟩, fun h => by omega⟩
theorem sp_put {i : Nat} {x v : Int} (hx : x = i) (hi : i < 2) : am_Mt l g 6 [.inr (.inl 42), .inl x, .inr (.inl 36), .inl v] mem (am_vq 0 (am_up (am_up (rl_sv mem 43 (17 * i)) 44 i v) 45 i 1)) := by
  subst hx
  refine fm_X2_put ⟨fun h => by omega, fun _ => ⟨fun _ => ⟨by omega, am_cl (sp_save_i (a := 17 * i) (by omega) (by omega)) ⟨by omega, ⟨by omega, Or.inr rfl⟩, rfl, ?_⟩⟩, fun h => by omega⟩⟩
  rw [Int.toNat_natCast]
/-- something more is seen / written -/
def rl_see (mem : am_Mem) (c p u h : Int) : am_Mem := am_up (am_up (am_up (am_up (am_up mem 47 (mem 46 4).toNat c) 48 (mem 46 4).toNat p) 49 (mem 46 4).toNat u) 50 (mem 46 4).toNat h) 46 4 (mem 46 4 + 1)
def rl_Qb (c : Prop) (m1 m0 : am_Mem) : am_Po := fun z m => (c ∧ z = 1 ∧ m = m1) ∨ (¬ c ∧ z = 0 ∧ m = m0)
theorem sp_sadd {c p u h : Int} (h0 : 0 ≤ mem 46 4) (hh : h = 0 ∨ h = 1) : am_Mt l g 41 [.inr (.inl 46), .inl c, .inl p, .inl u, .inl h] mem (rl_Qb (mem 46 4 < 6) (rl_see mem c p u h) mem) := by
  refine fm_X7_add ⟨fun h => by omega, fun _ => ⟨fun h1 => ⟨⟨h0, h1⟩, ⟨h0, h1⟩, ⟨h0, h1⟩, ⟨⟨h0, h1⟩, hh⟩, ?_, Or.inr rfl, Or.inl ⟨h1, rfl, rfl⟩⟩, fun h1 => am_R0 (Or.inr ⟨by omega, rfl, rfl⟩)⟩⟩
  show _ ≤ mem 46 4 + 1 ∧ mem 46 4 + 1 ≤ _
  omega
def rl_wr (mem : am_Mem) (c ti : Int) : am_Mem := am_up (am_up (am_up mem 52 (mem 51 2).toNat c) 53 (mem 51 2).toNat ti) 51 2 (mem 51 2 + 1)
theorem sp_badd {c ti : Int} (h0 : 0 ≤ mem 51 2) : am_Mt l g 0 [.inr (.inl 51), .inl c, .inl ti] mem (rl_Qb (mem 51 2 < 20) (rl_wr mem c ti) mem) := by
  refine fm_X0_add ⟨fun h => by omega, fun _ => ⟨fun h1 => ⟨⟨h0, h1⟩, ⟨h0, h1⟩, ?_, Or.inr rfl, Or.inl ⟨h1, rfl, rfl⟩⟩, fun h1 => am_R0 (Or.inr ⟨by omega, rfl, rfl⟩)⟩⟩
  show _ ≤ mem 51 2 + 1 ∧ mem 51 2 + 1 ≤ _
  omega
def rl_feed (mem : am_Mem) (v : Int) : am_Mem := am_up (am_up mem 19 (mem 18 1).toNat v) 18 1 (mem 18 1 + 1)
theorem sp_tadd {v : Int} (h0 : 0 ≤ mem 18 1) : am_Mt l g 44 [.inr (.inl 18), .inl v] mem (rl_Qb (mem 18 1 < 200) (rl_feed mem v) mem) := by
  refine fm_X8_add ⟨fun h => by omega, fun _ => ⟨fun h1 => ⟨⟨h0, h1⟩, ?_, Or.inr rfl, Or.inl ⟨h1, rfl, rfl⟩⟩, fun h1 => am_R0 (Or.inr ⟨by omega, rfl, rfl⟩)⟩⟩
  show _ ≤ mem 18 1 + 1 ∧ mem 18 1 + 1 ≤ _
  omega
end SPE
