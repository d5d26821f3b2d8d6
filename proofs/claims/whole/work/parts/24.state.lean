/-! what the class's cells hold -/
def rl_pc (mem : am_Mem) : Prop := ∀ c : Nat, (c : Int) < mem 29 4 → (0 ≤ mem 30 c ∧ mem 30 c ≤ 3) ∧ (0 ≤ mem 31 c ∧ mem 31 c ≤ 99) ∧ (0 ≤ mem 32 c ∧ mem 32 c ≤ 9)
def rl_pr (mem : am_Mem) : Prop := ∀ r : Nat, (r : Int) < mem 29 5 → (1 ≤ mem 33 r ∧ mem 33 r ≤ 20) ∧ (10 ≤ mem 34 r ∧ mem 34 r ≤ 70) ∧ (0 ≤ mem 35 r ∧ mem 35 r ≤ 30)
/-- the plan is sound -/
def rl_P (mem : am_Mem) : Prop := (mem 29 0 = 0 ∨ mem 29 0 = 1) ∧ (0 ≤ mem 29 2 ∧ mem 29 2 ≤ 40) ∧ (0 ≤ mem 29 3 ∧ mem 29 3 ≤ 999) ∧ (0 ≤ mem 29 4 ∧ mem 29 4 ≤ 4) ∧ (0 ≤ mem 29 5 ∧ mem 29 5 ≤ 6) ∧ rl_pc mem ∧ rl_pr mem ∧ (mem 29 0 = 0 → mem 29 4 = 0 ∧ mem 29 5 = 0)
/-- miles of all roads -/
def rl_am (mem : am_Mem) : Int := rl_sm (mem 29 5).toNat (mem 33)
theorem rl_am_bd {mem : am_Mem} (h : rl_P mem) : 0 ≤ rl_am mem ∧ rl_am mem ≤ 120 := by
  obtain ⟨-, -, -, -, h5, -, hr, -⟩ := h
  have := rl_sm_bd (f := mem 33) (K := 20) (mem 29 5).toNat (fun c hc => by have := (hr c (by omega)).1; omega)
  unfold rl_am
  omega
/-- a row of 17 is sound -/
def rl_rok (nc am t : Int) (w : Nat → Int) : Prop := (0 ≤ w 0 ∧ w 0 ≤ 999) ∧ (0 ≤ w 1 ∧ w 1 ≤ am) ∧ (0 ≤ w 2 ∧ w 2 ≤ 902000 + 360 * w 1) ∧ (0 ≤ w 3 ∧ w 3 ≤ t) ∧ (w 4 = 0 ∨ w 4 = 1) ∧ ∀ c : Nat, (c : Int) < nc → (0 ≤ w (5 + c) ∧ w (5 + c) ≤ 3) ∧ (0 ≤ w (9 + c) ∧ w (9 + c) ≤ 99) ∧ (0 ≤ w (13 + c) ∧ w (13 + c) ≤ w 1)
/-- the class's Now as a row -/
def rl_xw (mem : am_Mem) (k : Nat) : Int := if k < 5 then mem 36 k else if k < 9 then mem 37 (k - 5) else if k < 13 then mem 38 (k - 9) else mem 39 (k - 13)
theorem rl_xw5 (mem : am_Mem) {c : Nat} (h : c < 4) : rl_xw mem (5 + c) = mem 37 c := by
  unfold rl_xw
  rw [if_neg (by omega), if_pos (by omega)]
  congr 1; omega
theorem rl_xw9 (mem : am_Mem) {c : Nat} (h : c < 4) : rl_xw mem (9 + c) = mem 38 c := by
  unfold rl_xw
  rw [if_neg (by omega), if_neg (by omega), if_pos (by omega)]
  congr 1; omega
theorem rl_xw13 (mem : am_Mem) {c : Nat} (h : c < 4) : rl_xw mem (13 + c) = mem 39 c := by
  unfold rl_xw
  rw [if_neg (by omega), if_neg (by omega), if_neg (by omega)]
  congr 1; omega
def rl_X (t : Int) (mem : am_Mem) : Prop := rl_P mem ∧ rl_rok (mem 29 4) (rl_am mem) t (rl_xw mem)
/-- what is said of Now, cell by cell -/
theorem rl_X_now {t : Int} {mem : am_Mem} (h : rl_X t mem) : (0 ≤ mem 36 0 ∧ mem 36 0 ≤ 999) ∧ (0 ≤ mem 36 1 ∧ mem 36 1 ≤ rl_am mem) ∧ (0 ≤ mem 36 2 ∧ mem 36 2 ≤ 902000 + 360 * mem 36 1) ∧ (0 ≤ mem 36 3 ∧ mem 36 3 ≤ t) ∧ (mem 36 4 = 0 ∨ mem 36 4 = 1) := by
  obtain ⟨h1, h2, h3, h4, h5, -⟩ := h.2
  exact ⟨h1, h2, h3, h4, h5⟩
theorem rl_X_c {t : Int} {mem : am_Mem} (h : rl_X t mem) {c : Nat} (hc : (c : Int) < mem 29 4) : (0 ≤ mem 37 c ∧ mem 37 c ≤ 3) ∧ (0 ≤ mem 38 c ∧ mem 38 c ≤ 99) ∧ (0 ≤ mem 39 c ∧ mem 39 c ≤ mem 36 1) := by
  have h4 := h.1.2.2.2.1
  obtain ⟨-, -, -, -, -, h6⟩ := h.2
  have := h6 c hc
  rw [rl_xw5 mem (by omega), rl_xw9 mem (by omega), rl_xw13 mem (by omega)] at this
  exact this
section SPB
variable {l : Launch} {g : am_G} {mem : am_Mem} {t : Int}
theorem sp_holdFront_n {n : Int} (hX : rl_X t mem) (hn : 0 ≤ n) (hn' : n ≤ 120) : am_Mt l g 10 [.inr (.inl 36), .inr (.inl 29), .inl n] mem (am_vq (rl_hf (mem 29 4).toNat (mem 36 0) (mem 37) (fun c => rl_tb n (mem 38 c) (mem 39 c) (mem 32 c))) mem) := by
  have hN := rl_X_now hX
  obtain ⟨p0, p2, p3, p4, p5, pc, pr, -⟩ := hX.1
  have ha := rl_am_bd hX.1
  refine fm_X3_holdFront_n (fun k v2 v3 v4 m => m = mem ∧ v2 = n ∧ ∃ c : Nat, v4 = c ∧ (c : Int) ≤ mem 29 4 ∧ v3 = rl_hf c (mem 36 0) (mem 37) (fun c => rl_tb n (mem 38 c) (mem 39 c) (mem 32 c)) ∧ k = 4 - c) ⟨by omega, 4, rfl, rfl, rfl, rfl, 0, rfl, by omega, by simp [rl_hf, rl_sm], rfl⟩ ?_
  rintro k v2 v3 v4 m ⟨rfl, rfl, c, rfl, hc, rfl, rfl⟩
  have hb := rl_sm_bd (f := fun c => rl_cf (m 37 c) (rl_tb v2 (m 38 c) (m 39 c) (m 32 c))) (K := 99) c (fun r hr => by
    have h1 := rl_X_c hX (c := r) (by omega)
    have h2 := pc r (by omega)
    have h3 := rl_tb_bd (n := v2) (s := m 39 r) h1.2.1.1 h1.2.1.2 h2.2.2.1 hn
    exact (rl_cf_bd h3.1 h3.2).1)
  refine ⟨fun h => ⟨?_, rfl⟩, fun h => ⟨fun h2 => by omega, fun h2 => ⟨by omega, by omega, by omega, by omega, ?_⟩⟩⟩
  · rw [show (m 29 4).toNat = c by omega]
  · have h1 := rl_X_c hX h
    have h3 := pc c h
    have h4 := rl_tb_bd (n := v2) (s := m 39 c) h1.2.1.1 h1.2.1.2 h3.2.2.1 hn
    have h5 := (rl_cf_bd (way := m 37 c) h4.1 h4.2).1
    rw [Int.toNat_natCast]
    refine am_cl (sp_tightBehind hn (by omega) h1.2.1.1 h1.2.1.2 h1.2.2.1 (by omega) h3.2.2.1 h3.2.2.2) (am_cl (sp_cordFront h4.1) ⟨?_, by omega, 4 - (c + 1), by omega, rfl, rfl, rfl, rfl, c + 1, by omega, by omega, ?_, rfl⟩)
    · simp only [rl_hf]; omega
    · simp only [rl_hf, rl_sm]; omega
theorem sp_holdBack_n {n : Int} (hX : rl_X t mem) (hn : 0 ≤ n) (hn' : n ≤ 120) : am_Mt l g 11 [.inr (.inl 36), .inr (.inl 29), .inl n] mem (am_vq (rl_hb (mem 29 4).toNat (mem 36 0) (mem 37) (fun c => rl_tb n (mem 38 c) (mem 39 c) (mem 32 c))) mem) := by
  have hN := rl_X_now hX
  obtain ⟨p0, p2, p3, p4, p5, pc, pr, -⟩ := hX.1
  have ha := rl_am_bd hX.1
  refine fm_X3_holdBack_n (fun k v2 v3 v4 m => m = mem ∧ v2 = n ∧ ∃ c : Nat, v4 = c ∧ (c : Int) ≤ mem 29 4 ∧ v3 = rl_hb c (mem 36 0) (mem 37) (fun c => rl_tb n (mem 38 c) (mem 39 c) (mem 32 c)) ∧ k = 4 - c) ⟨by omega, by omega, 4, rfl, rfl, rfl, rfl, 0, rfl, by omega, by simp [rl_hb, rl_sm], rfl⟩ ?_
  rintro k v2 v3 v4 m ⟨rfl, rfl, c, rfl, hc, rfl, rfl⟩
  have hb := rl_sm_bd (f := fun c => rl_cb (m 37 c) (rl_tb v2 (m 38 c) (m 39 c) (m 32 c))) (K := 99) c (fun r hr => by
    have h1 := rl_X_c hX (c := r) (by omega)
    have h2 := pc r (by omega)
    have h3 := rl_tb_bd (n := v2) (s := m 39 r) h1.2.1.1 h1.2.1.2 h2.2.2.1 hn
    exact (rl_cf_bd h3.1 h3.2).2)
  refine ⟨fun h => ⟨?_, rfl⟩, fun h => ⟨fun h2 => by omega, fun h2 => ⟨by omega, by omega, by omega, by omega, ?_⟩⟩⟩
  · rw [show (m 29 4).toNat = c by omega]
  · have h1 := rl_X_c hX h
    have h3 := pc c h
    have h4 := rl_tb_bd (n := v2) (s := m 39 c) h1.2.1.1 h1.2.1.2 h3.2.2.1 hn
    have h5 := (rl_cf_bd (way := m 37 c) h4.1 h4.2).2
    rw [Int.toNat_natCast]
    refine am_cl (sp_tightBehind hn (by omega) h1.2.1.1 h1.2.1.2 h1.2.2.1 (by omega) h3.2.2.1 h3.2.2.2) (am_cl (sp_cordBack h4.1 h4.2) ⟨?_, by omega, 4 - (c + 1), by omega, rfl, rfl, rfl, rfl, c + 1, by omega, by omega, ?_, rfl⟩)
    · simp only [rl_hb]; omega
    · simp only [rl_hb, rl_sm]; omega
theorem sp_pull_n {c : Int} (hX : mem 29 4 ≤ 4) (hc : 0 ≤ c) (hc' : c < mem 29 4) : am_Mt l g 8 [.inr (.inl 36), .inr (.inl 29), .inl c] mem (am_vq 0 (am_up (am_up mem 38 c.toNat (mem 31 c.toNat)) 39 c.toNat 0)) :=
  fm_X3_pull_n (am_cbe (sp_hasCord hX) (fun _ => ⟨by omega, by omega, by omega, rfl, rfl⟩) (fun h => absurd ⟨hc, hc'⟩ h))
theorem sp_pull_f {c : Int} (hX : mem 29 4 ≤ 4) (hc : 0 ≤ c) (hc' : c < mem 29 4) : am_Mt l g 8 [.inr (.inl 59), .inr (.inl 29), .inl c] mem (am_vq 0 (am_up (am_up mem 61 c.toNat (mem 31 c.toNat)) 62 c.toNat 0)) :=
  fm_X3_pull_f (am_cbe (sp_hasCord hX) (fun _ => ⟨by omega, by omega, by omega, rfl, rfl⟩) (fun h => absurd ⟨hc, hc'⟩ h))
/-- a whole cell anew -/
def am_st (mem : am_Mem) (a : Nat) (f : Nat → Int) : am_Mem := fun k i => if k = a then f i else mem k i
/-- all cords pulled: of the tights and the since of a Now -/
def rl_pull (mem : am_Mem) (a b n : Nat) : am_Mem := am_st (am_st mem a (fun i => if i < n then mem 31 i else mem a i)) b (fun i => if i < n then 0 else mem b i)
theorem sp_pullAll (h0 : 0 ≤ mem 29 4) (h4 : mem 29 4 ≤ 4) : am_Mt l g 9 [.inr (.inl 36), .inr (.inl 29)] mem (am_vq 0 (rl_pull mem 38 39 (mem 29 4).toNat)) := by
  refine fm_X3_pullAll (fun k v2 m => ∃ c : Nat, v2 = c ∧ (c : Int) ≤ mem 29 4 ∧ m = rl_pull mem 38 39 c ∧ k = 4 - c) ⟨4, rfl, rfl, 0, rfl, h0, ?_, rfl⟩ ?_
  · funext k i; simp only [rl_pull, am_st]; grind
  · rintro k v2 m ⟨c, rfl, hc, rfl, rfl⟩
    have e4 : rl_pull mem 38 39 c 29 4 = mem 29 4 := rfl
    have e31 : rl_pull mem 38 39 c 31 = mem 31 := rfl
    rw [e4]
    refine ⟨fun h => ⟨rfl, ?_⟩, fun h => ⟨fun h2 => by omega, fun h2 => am_cl (sp_pull_n h4 (by omega) (by rw [e4]; exact h)) ⟨by omega, 4 - (c + 1), by omega, rfl, rfl, c + 1, by omega, by omega, ?_, rfl⟩⟩⟩
    · rw [show (mem 29 4).toNat = c by omega]
    · rw [Int.toNat_natCast]
      funext k i
      simp only [rl_pull, am_st, am_up]
      grind
theorem sp_onTheRoof : am_Mt l g 79 [.inr (.inl 17)] mem (am_bq (¬ mem 29 0 = 0 ∧ mem 36 4 = 0) mem) :=
  fm_X9_onTheRoof ⟨fun h => am_R0 (am_b0 (by omega)), fun h => ⟨fun h2 => am_R0 (am_b0 (by omega)), fun h2 => am_R1 (am_b1 (by omega))⟩⟩
theorem rl_hm {mem : am_Mem} (h : rl_P mem) : ∀ r : Nat, (r : Int) < mem 29 5 → 0 ≤ mem 33 r ∧ mem 33 r ≤ 20 := fun r hr => by
  have := (h.2.2.2.2.2.2.1 r hr).1
  omega
theorem sp_milesLeft (hX : rl_X t mem) : am_Mt l g 80 [.inr (.inl 17)] mem (am_vq (rl_am mem - mem 36 1) mem) := by
  have hN := rl_X_now hX
  have ha := rl_am_bd hX.1
  have h5 := hX.1.2.2.2.2.1
  exact fm_X9_milesLeft (am_cl (sp_allMiles h5.1 h5.2 (rl_hm hX.1)) ⟨by show _ ≤ rl_am mem - _ ∧ rl_am mem - _ ≤ _; omega, rfl, rfl⟩)
end SPB
