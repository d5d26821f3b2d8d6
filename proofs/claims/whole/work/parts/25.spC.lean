/-- it holds at a pace in a gust, by what holds at the front and at the back -/
def rl_ok (A hf hb v : Int) : Prop := rl_F A v ≤ hf ∧ rl_Bk A v ≤ hb
theorem rl_L_mono {A v w : Int} (hA : 0 ≤ A) (hv : 0 ≤ v) (h : v ≤ w) : rl_L A v ≤ rl_L A w := by
  unfold rl_L
  have h1 : A * v ≤ A * w := Int.mul_le_mul_of_nonneg_left h hA
  have h2 : A * v * v ≤ A * w * w := Int.mul_le_mul h1 h hv (Int.mul_nonneg hA (by omega))
  exact Int.ediv_le_ediv (by omega) h2
theorem rl_ok_mono {A hf hb v w : Int} (hA : 0 ≤ A) (hv : 0 ≤ v) (h : v ≤ w) (hk : rl_ok A hf hb w) : rl_ok A hf hb v := by
  have := rl_L_mono hA hv h
  unfold rl_ok rl_F rl_Bk at *
  omega
/-- what climb answers -/
def rl_cl (A hf hb fr gu z : Int) : Prop := fr ≤ z ∧ z ≤ 70 ∧ (∀ p, fr < p → p ≤ z → rl_ok A hf hb (p + gu)) ∧ (z < 70 → ¬ rl_ok A hf hb (z + 1 + gu))
section SPC
variable {l : Launch} {g : am_G} {mem : am_Mem} {t : Int}
theorem sp_climb {fr gu hf hb : Int} (hA : 0 ≤ mem 29 2) (hA' : mem 29 2 ≤ 40) (hf0 : 0 ≤ fr) (hf7 : fr ≤ 70) (hg : 0 ≤ gu) (hg' : gu ≤ 30) : am_Mt l g 83 [.inr (.inl 17), .inl fr, .inl gu, .inl hf, .inl hb] mem (fun z m => m = mem ∧ rl_cl (mem 29 2) hf hb fr gu z) := by
  refine fm_X9_climb (fun n v1 v2 v3 v4 v5 m => m = mem ∧ v1 = fr ∧ v2 = gu ∧ v3 = hf ∧ v4 = hb ∧ fr ≤ v5 ∧ v5 ≤ 70 ∧ (∀ p, fr < p → p ≤ v5 → rl_ok (mem 29 2) hf hb (p + gu)) ∧ n = (70 - v5).toNat) ⟨_, rfl, rfl, rfl, rfl, rfl, rfl, by omega, by omega, fun p h1 h2 => by omega, rfl⟩ ?_
  rintro n v1 v2 v3 v4 v5 m ⟨rfl, rfl, rfl, rfl, rfl, h1, h2, h3, rfl⟩
  refine ⟨fun h => ⟨rfl, by omega, by omega, fun p ha hb => h3 p ha (by omega), fun h => by omega⟩, fun h => ⟨by omega, am_cl (sp_liftFront hA hA' (by omega) (by omega)) ⟨fun h4 => ⟨rfl, h1, by omega, h3, fun _ h6 => ?_⟩, fun h4 => ⟨by omega, am_cl (sp_liftBack hA hA' (by omega) (by omega)) ⟨fun h5 => ⟨by omega, (70 - (v5 + 1)).toNat, by omega, rfl, rfl, rfl, rfl, rfl, rfl, by omega, by omega, fun p ha hb => ?_, rfl⟩, fun h5 => ⟨rfl, h1, by omega, h3, fun _ h6 => ?_⟩⟩⟩⟩⟩⟩
  · have := h6.1; omega
  · by_cases e : p = v5 + 1
    · subst e; exact ⟨h4, h5⟩
    · exact h3 p ha (by omega)
  · have := h6.2; omega
def rl_dr (s : Int) : Int := (s * 1103515245 + 12345) % 2147483648
theorem rl_dr_bd (s : Int) : 0 ≤ rl_dr s ∧ rl_dr s ≤ 2147483647 := by unfold rl_dr; omega
theorem sp_nextDraw (h0 : 0 ≤ mem 17 10) (h1 : mem 17 10 ≤ 2147483647) : am_Mt l g 82 [.inr (.inl 17)] mem (am_vq (rl_dr (mem 17 10) / 65536 % 11) (am_up mem 17 10 (rl_dr (mem 17 10)))) := by
  have hb := rl_dr_bd (mem 17 10)
  refine fm_X9_nextDraw ⟨by omega, by omega, by omega, by omega, ?_⟩
  exact ⟨by omega, by omega, fun _ => ⟨rfl, rfl⟩, fun h => by omega⟩
/-- all others as now, one cord so tight: whether it would hold -/
def rl_wh (mem : am_Mem) (c : Nat) (ti v : Int) : Prop := rl_ok (mem 29 2) (rl_hf (mem 29 4).toNat (mem 36 0) (mem 37) (fun k => if k = c then ti else mem 38 k)) (rl_hb (mem 29 4).toNat (mem 36 0) (mem 37) (fun k => if k = c then ti else mem 38 k)) v
theorem rl_sm_one {f : Nat → Int} {c : Nat} {x : Int} : ∀ (n : Nat), c < n → rl_sm n (fun k => if k = c then x else f k) = rl_sm n f - f c + x
  | 0, h => by omega
  | n + 1, h => by
    rw [rl_sm, rl_sm]
    by_cases e : c = n
    · subst e
      rw [if_pos rfl, rl_sm_cg (h := f) c (fun k hk => by rw [if_neg (by omega)])]
      omega
    · rw [rl_sm_one n (by omega), if_neg (by omega)]
      omega
theorem rl_wh_iff {mem : am_Mem} {c : Nat} {ti v : Int} (hc : (c : Int) < mem 29 4) : rl_wh mem c ti v ↔ (rl_F (mem 29 2) v ≤ rl_hf (mem 29 4).toNat (mem 36 0) (mem 37) (mem 38) - rl_cf (mem 37 c) (mem 38 c) + rl_cf (mem 37 c) ti ∧ rl_Bk (mem 29 2) v ≤ rl_hb (mem 29 4).toNat (mem 36 0) (mem 37) (mem 38) - rl_cb (mem 37 c) (mem 38 c) + rl_cb (mem 37 c) ti) := by
  have e1 : rl_sm (mem 29 4).toNat (fun k => rl_cf (mem 37 k) (if k = c then ti else mem 38 k)) = rl_sm (mem 29 4).toNat (fun k => rl_cf (mem 37 k) (mem 38 k)) - rl_cf (mem 37 c) (mem 38 c) + rl_cf (mem 37 c) ti := by
    rw [← rl_sm_one (f := fun k => rl_cf (mem 37 k) (mem 38 k)) (c := c) (x := rl_cf (mem 37 c) ti) (mem 29 4).toNat (by omega)]
    refine rl_sm_cg _ (fun k hk => ?_)
    by_cases e : k = c
    · subst e; simp
    · simp [e]
  have e2 : rl_sm (mem 29 4).toNat (fun k => rl_cb (mem 37 k) (if k = c then ti else mem 38 k)) = rl_sm (mem 29 4).toNat (fun k => rl_cb (mem 37 k) (mem 38 k)) - rl_cb (mem 37 c) (mem 38 c) + rl_cb (mem 37 c) ti := by
    rw [← rl_sm_one (f := fun k => rl_cb (mem 37 k) (mem 38 k)) (c := c) (x := rl_cb (mem 37 c) ti) (mem 29 4).toNat (by omega)]
    refine rl_sm_cg _ (fun k hk => ?_)
    by_cases e : k = c
    · subst e; simp
    · simp [e]
  unfold rl_wh rl_ok
  simp only [rl_hf, rl_hb, e1, e2]
  constructor <;> rintro ⟨a, b⟩ <;> constructor <;> omega
/-- hold now: nothing is slacker by 0 miles -/
theorem rl_hf0 {mem : am_Mem} (hX : rl_X t mem) : rl_hf (mem 29 4).toNat (mem 36 0) (mem 37) (fun c => rl_tb 0 (mem 38 c) (mem 39 c) (mem 32 c)) = rl_hf (mem 29 4).toNat (mem 36 0) (mem 37) (mem 38) := by
  have h4 := hX.1.2.2.2.1
  simp only [rl_hf]
  rw [rl_sm_cg (h := fun c => rl_cf (mem 37 c) (mem 38 c)) _ (fun c hc => by rw [rl_tb_0 (rl_X_c hX (c := c) (by omega)).2.1.1])]
theorem rl_hb0 {mem : am_Mem} (hX : rl_X t mem) : rl_hb (mem 29 4).toNat (mem 36 0) (mem 37) (fun c => rl_tb 0 (mem 38 c) (mem 39 c) (mem 32 c)) = rl_hb (mem 29 4).toNat (mem 36 0) (mem 37) (mem 38) := by
  have h4 := hX.1.2.2.2.1
  simp only [rl_hb]
  rw [rl_sm_cg (h := fun c => rl_cb (mem 37 c) (mem 38 c)) _ (fun c hc => by rw [rl_tb_0 (rl_X_c hX (c := c) (by omega)).2.1.1])]
theorem rl_h_bd {mem : am_Mem} (hX : rl_X t mem) : (0 ≤ rl_hf (mem 29 4).toNat (mem 36 0) (mem 37) (mem 38) ∧ rl_hf (mem 29 4).toNat (mem 36 0) (mem 37) (mem 38) ≤ 1500) ∧ (0 ≤ rl_hb (mem 29 4).toNat (mem 36 0) (mem 37) (mem 38) ∧ rl_hb (mem 29 4).toNat (mem 36 0) (mem 37) (mem 38) ≤ 1500) := by
  have h4 := hX.1.2.2.2.1
  have hN := rl_X_now hX
  have b1 := rl_sm_bd (f := fun c => rl_cf (mem 37 c) (mem 38 c)) (K := 99) (mem 29 4).toNat (fun c hc => by
    have := rl_X_c hX (c := c) (by omega)
    exact (rl_cf_bd this.2.1.1 this.2.1.2).1)
  have b2 := rl_sm_bd (f := fun c => rl_cb (mem 37 c) (mem 38 c)) (K := 99) (mem 29 4).toNat (fun c hc => by
    have := rl_X_c hX (c := c) (by omega)
    exact (rl_cf_bd this.2.1.1 this.2.1.2).2)
  simp only [rl_hf, rl_hb]
  omega
theorem sp_holdF (hX : rl_X t mem) : am_Mt l g 10 [.inr (.inl 36), .inr (.inl 29), .inl 0] mem (am_vq (rl_hf (mem 29 4).toNat (mem 36 0) (mem 37) (mem 38)) mem) := by
  have := sp_holdFront_n (l := l) (g := g) (n := 0) hX (by omega) (by omega)
  rw [rl_hf0 hX] at this
  exact this
theorem sp_holdB (hX : rl_X t mem) : am_Mt l g 11 [.inr (.inl 36), .inr (.inl 29), .inl 0] mem (am_vq (rl_hb (mem 29 4).toNat (mem 36 0) (mem 37) (mem 38)) mem) := by
  have := sp_holdBack_n (l := l) (g := g) (n := 0) hX (by omega) (by omega)
  rw [rl_hb0 hX] at this
  exact this
/-- the least tight by which it holds -/
def rl_tth (mem : am_Mem) (c : Nat) (v z : Int) : Prop := 0 ≤ z ∧ z ≤ 100 ∧ ∀ ti, 0 ≤ ti → ti ≤ 99 → (rl_wh mem c ti v ↔ z ≤ ti)
theorem rl_tth_of {mem : am_Mem} {c : Nat} {v z fr ba : Int} (hc : (c : Int) < mem 29 4) (hfr : fr = rl_F (mem 29 2) v - rl_hf (mem 29 4).toNat (mem 36 0) (mem 37) (mem 38) + rl_cf (mem 37 c) (mem 38 c)) (hba : ba = rl_Bk (mem 29 2) v - rl_hb (mem 29 4).toNat (mem 36 0) (mem 37) (mem 38) + rl_cb (mem 37 c) (mem 38 c))
    (h : 0 ≤ z ∧ z ≤ 100 ∧ ∀ ti, 0 ≤ ti → ti ≤ 99 → ((fr ≤ rl_cf (mem 37 c) ti ∧ ba ≤ rl_cb (mem 37 c) ti) ↔ z ≤ ti)) : rl_tth mem c v z := by
  refine ⟨h.1, h.2.1, fun ti h1 h2 => ?_⟩
  rw [rl_wh_iff hc, ← h.2.2 ti h1 h2]
  constructor <;> rintro ⟨a, b⟩ <;> constructor <;> omega
def rl_Qt (mem : am_Mem) (c : Nat) (v : Int) : am_Po := fun z m => m = mem ∧ rl_tth mem c v z
set_option maxHeartbeats 1000000 in
theorem sp_tightToHold {c : Nat} {pa gu : Int} (hX : rl_X t mem) (hc : (c : Int) < mem 29 4) (hv : 0 ≤ pa + gu) (hv' : pa + gu ≤ 140) : am_Mt l g 13 [.inr (.inl 36), .inr (.inl 29), .inl c, .inl pa, .inl gu] mem (rl_Qt mem c (pa + gu)) := by
  obtain ⟨p0, p2, p3, p4, p5, pc, pr, -⟩ := hX.1
  have hC := rl_X_c hX hc
  have hb := rl_h_bd hX
  have hF := rl_FB p2.1 p2.2 hv hv'
  have hcf := rl_cf_bd (way := mem 37 c) hC.2.1.1 hC.2.1.2
  refine fm_X3_tightToHold (am_cbn (sp_hasCord p4.2) (fun _ => ⟨by omega, am_cl (sp_liftFront p2.1 p2.2 hv hv') (am_cl (sp_holdF hX) ⟨by omega, by omega, ?_⟩)⟩) (fun h => absurd ⟨by omega, hc⟩ h))
  simp only [Int.toNat_natCast]
  refine am_cl (sp_cordFront hC.2.1.1) ⟨by omega, am_cl (sp_liftBack p2.1 p2.2 hv hv') (am_cl (sp_holdB hX) ⟨by omega, by omega, am_cl (sp_cordBack hC.2.1.1 hC.2.1.2) ⟨by omega, ?_⟩⟩)⟩
  generalize hfr : rl_F (mem 29 2) (pa + gu) - rl_hf (mem 29 4).toNat (mem 36 0) (mem 37) (mem 38) + rl_cf (mem 37 c) (mem 38 c) = fr
  generalize hba : rl_Bk (mem 29 2) (pa + gu) - rl_hb (mem 29 4).toNat (mem 36 0) (mem 37) (mem 38) + rl_cb (mem 37 c) (mem 38 c) = ba
  have hfr2 : -3000 ≤ fr ∧ fr ≤ 3000 := by omega
  have hba2 : -3000 ≤ ba ∧ ba ≤ 3000 := by omega
  have fin : ∀ z, (0 ≤ z ∧ z ≤ 100 ∧ ∀ ti, 0 ≤ ti → ti ≤ 99 → ((fr ≤ rl_cf (mem 37 c) ti ∧ ba ≤ rl_cb (mem 37 c) ti) ↔ z ≤ ti)) → rl_Qt mem c (pa + gu) z mem := fun z h => ⟨rfl, rl_tth_of hc hfr.symm hba.symm h⟩
  clear hfr hba hb hF hcf
  repeat' first
    | exact fin _ ⟨by omega, by omega, fun ti h1 h2 => by (simp only [rl_cb, rl_cf]; split <;> (try split) <;> omega)⟩
    | refine am_cl (sp_max _ _) ?_
    | refine am_cl (sp_min _ _) ?_
    | (refine ⟨fun _ => ?_, fun _ => ?_⟩ <;> try (exfalso; omega))
    | refine ⟨by omega, ?_⟩
end SPC
