/-- the road on which a mile lies: from road r on, behind 'end' miles -/
def rl_rdF : Nat → Nat → Int → (Nat → Int) → Int → Int
  | 0, _, _, _, _ => -1
  | k + 1, r, e, ml, x => if x < e + ml r then (r : Int) else rl_rdF k (r + 1) (e + ml r) ml x
section SPA
variable {l : Launch} {g : am_G} {mem : am_Mem}
theorem sp_max (a b : Int) : am_Mt l g 156 [.inl a, .inl b] mem (am_vq (max a b) mem) := by
  refine fm_J9_max_7cf53 ⟨fun h => ⟨by omega, rfl⟩, fun h => ⟨by omega, rfl⟩⟩
theorem sp_min (a b : Int) : am_Mt l g 157 [.inl a, .inl b] mem (am_vq (min a b) mem) := by
  refine fm_J9_min_7cf53 ⟨fun h => ⟨by omega, rfl⟩, fun h => ⟨by omega, rfl⟩⟩
theorem sp_floorMod {a b : Int} (hb : 0 < b) (hb' : b < 100) : am_Mt l g 155 [.inl a, .inl b] mem (am_vq (a % b) mem) := by
  refine fm_J9_floorMod_7cf53 ⟨hb, fun h z hz => ⟨fun _ => ⟨rfl, rfl⟩, fun h2 => by omega⟩, fun h z hz => ⟨fun h2 => by omega, fun h2 => ⟨fun h3 => ⟨?_, rfl⟩, fun h3 => ?_⟩⟩⟩
  · have e1 : (-a) % b = 0 := by omega
    have : b ∣ -a := Int.dvd_of_emod_eq_zero e1
    have : b ∣ a := Int.dvd_neg.mp this
    rw [Int.emod_eq_zero_of_dvd this, e1]; rfl
  · have h5 := Int.emod_nonneg (-a) (show b ≠ 0 by omega)
    have h6 := Int.emod_lt_of_pos (-a) hb
    refine ⟨by omega, ?_, rfl⟩
    have e1 := Int.emod_add_mul_ediv (-a) b
    have e2 : a = (-((-a) % b) + b) + b * (-((-a) / b) - 1) := by
      rw [Int.mul_sub, Int.mul_neg]
      omega
    have e3 : a % b = (-((-a) % b) + b) % b := by
      rw [← Int.add_mul_emod_self_left (-((-a) % b) + b) b (-((-a) / b) - 1), ← e2]
    rw [e3]
    exact (Int.emod_eq_of_lt (by omega) (by omega)).symm
theorem sp_within (x a b : Int) : am_Mt l g 84 [.inl x, .inl a, .inl b] mem (am_bq (a ≤ x ∧ x ≤ b) mem) := by
  refine fm_X9_within ⟨fun h => am_R0 (am_b0 (by omega)), fun h => ⟨fun h2 => am_R0 (am_b0 (by omega)), fun h2 => am_R1 (am_b1 (by omega))⟩⟩
theorem sp_isPace (x : Int) : am_Mt l g 85 [.inl x] mem (am_bq (10 ≤ x ∧ x ≤ 70) mem) := fm_X9_isPace (am_cbp (sp_within x 10 70))
theorem sp_isGust (x : Int) : am_Mt l g 86 [.inl x] mem (am_bq (0 ≤ x ∧ x ≤ 30) mem) := fm_X9_isGust (am_cbp (sp_within x 0 30))
theorem sp_isFigure (x : Int) : am_Mt l g 35 [.inl x] mem (am_bq (48 ≤ x ∧ x ≤ 57) mem) := fm_X5_isFigure (am_cbp (sp_within x 48 57))
theorem sp_liftAll {A p q : Int} (hA : 0 ≤ A) (hA' : A ≤ 40) (hv : 0 ≤ p + q) (hv' : p + q ≤ 140) : am_Mt l g 87 [.inl A, .inl p, .inl q] mem (am_vq (rl_L A (p + q)) mem) := by
  have h := rl_L_bd hA hA' hv hv'
  refine fm_X9_liftAll ⟨by omega, by omega, by omega, by omega, rfl, rfl⟩
theorem sp_liftFront {A p q : Int} (hA : 0 ≤ A) (hA' : A ≤ 40) (hv : 0 ≤ p + q) (hv' : p + q ≤ 140) : am_Mt l g 88 [.inl A, .inl p, .inl q] mem (am_vq (rl_F A (p + q)) mem) := by
  have h := rl_L_bd hA hA' hv hv'
  refine fm_X9_liftFront (am_cl (sp_liftAll hA hA' hv hv') ⟨by omega, by omega, rfl, rfl⟩)
theorem sp_liftBack {A p q : Int} (hA : 0 ≤ A) (hA' : A ≤ 40) (hv : 0 ≤ p + q) (hv' : p + q ≤ 140) : am_Mt l g 89 [.inl A, .inl p, .inl q] mem (am_vq (rl_Bk A (p + q)) mem) := by
  have h := rl_L_bd hA hA' hv hv'
  refine fm_X9_liftBack (am_cl (sp_liftAll hA hA' hv hv') ⟨by omega, by omega, by omega, rfl, rfl⟩)
theorem sp_cordFront {w t : Int} (h : 0 ≤ t) : am_Mt l g 90 [.inl w, .inl t] mem (am_vq (rl_cf w t) mem) := by
  refine fm_X9_cordFront ⟨fun h1 => ⟨fun h2 => ⟨by omega, ?_, rfl⟩, fun h2 => ⟨?_, rfl⟩⟩, fun h1 => ⟨?_, rfl⟩⟩
  · simp [rl_cf, h1, h2]
  · simp [rl_cf, h1, h2]
  · simp [rl_cf, h1]
theorem sp_cordBack {w t : Int} (h : 0 ≤ t) (h' : t ≤ 99) : am_Mt l g 91 [.inl w, .inl t] mem (am_vq (rl_cb w t) mem) := by
  have := rl_cf_bd (way := w) h h'
  refine fm_X9_cordBack (am_cl (sp_cordFront h) ⟨by omega, rfl, rfl⟩)
theorem sp_tightBehind {n t s gv : Int} (hn : 0 ≤ n) (hn' : n ≤ 200) (ht : 0 ≤ t) (ht' : t ≤ 99) (hs : 0 ≤ s) (hs' : s ≤ 1000) (hg : 0 ≤ gv) (hg' : gv ≤ 9) : am_Mt l g 92 [.inl n, .inl t, .inl s, .inl gv] mem (am_vq (rl_tb n t s gv) mem) := by
  have h := am_mulb hg hg' (show 0 ≤ n + min n (max 0 (4 - s)) by omega) (show n + min n (max 0 (4 - s)) ≤ 400 by omega)
  refine fm_X9_tightBehind ⟨by omega, am_cl (sp_max 0 (4 - s)) (am_cl (sp_min n _) ⟨by omega, by omega, by omega, am_cl (sp_max 0 _) ⟨rfl, rfl⟩⟩)⟩
theorem sp_letterAt {a : Int} (h0 : 0 ≤ mem 18 1) (h1 : mem 18 1 ≤ 200) : am_Mt l g 45 [.inr (.inl 18), .inl a] mem (am_vq (if 0 ≤ a ∧ a < mem 18 1 then mem 19 a.toNat else -1) mem) := by
  refine fm_X8_letterAt ⟨fun h => ⟨?_, rfl⟩, fun h => ⟨fun h2 => ⟨?_, rfl⟩, fun h2 => ⟨fun h3 => by omega, fun h3 => ⟨by omega, ?_, rfl⟩⟩⟩⟩
  · rw [if_neg (by omega)]
  · rw [if_neg (by omega)]
  · rw [if_pos ⟨h, h2⟩]
theorem sp_hasCord {a : Int} (h : mem 29 4 ≤ 4) : am_Mt l g 21 [.inr (.inl 29), .inl a] mem (am_bq (0 ≤ a ∧ a < mem 29 4) mem) := by
  refine fm_X4_hasCord ⟨fun h => am_R0 (am_b0 (by omega)), fun h => ⟨fun h2 => am_R0 (am_b0 (by omega)), fun h2 => ⟨fun h3 => by omega, fun h3 => am_R1 (am_b1 (by omega))⟩⟩⟩
theorem sp_hasRoad {a : Int} (h : mem 29 5 ≤ 6) : am_Mt l g 22 [.inr (.inl 29), .inl a] mem (am_bq (0 ≤ a ∧ a < mem 29 5) mem) := by
  refine fm_X4_hasRoad ⟨fun h => am_R0 (am_b0 (by omega)), fun h => ⟨fun h2 => am_R0 (am_b0 (by omega)), fun h2 => ⟨fun h3 => by omega, fun h3 => am_R1 (am_b1 (by omega))⟩⟩⟩
/-- miles of all roads -/
theorem sp_allMiles (h0 : 0 ≤ mem 29 5) (h6 : mem 29 5 ≤ 6) (hm : ∀ r : Nat, (r : Int) < mem 29 5 → 0 ≤ mem 33 r ∧ mem 33 r ≤ 20) : am_Mt l g 23 [.inr (.inl 29)] mem (am_vq (rl_sm (mem 29 5).toNat (mem 33)) mem) := by
  refine fm_X4_allMiles (fun n v1 v2 m => m = mem ∧ ∃ c : Nat, v2 = c ∧ (c : Int) ≤ mem 29 5 ∧ v1 = rl_sm c (mem 33) ∧ n = 6 - c) ⟨6, rfl, rfl, 0, rfl, h0, rfl, rfl⟩ ?_
  rintro n v1 v2 m ⟨rfl, c, rfl, hc, rfl, rfl⟩
  have hb := rl_sm_bd (f := m 33) (K := 20) c (fun r hr => hm r (by omega))
  refine ⟨fun h => ⟨?_, rfl⟩, fun h => ⟨fun h2 => by omega, fun h2 => ⟨by omega, ?_⟩⟩⟩
  · rw [show (m 29 5).toNat = c by omega]
  · have := hm c h
    rw [Int.toNat_natCast]
    exact ⟨by omega, by omega, 6 - (c + 1), by omega, rfl, rfl, c + 1, by omega, by omega, rfl, rfl⟩
/-- the road of a mile -/
def rl_rd (nr : Nat) (ml : Nat → Int) (x : Int) : Int := rl_rdF nr 0 0 ml x
theorem sp_roadBehind {x : Int} (h0 : 0 ≤ mem 29 5) (h6 : mem 29 5 ≤ 6) (hm : ∀ r : Nat, (r : Int) < mem 29 5 → 0 ≤ mem 33 r ∧ mem 33 r ≤ 20) : am_Mt l g 24 [.inr (.inl 29), .inl x] mem (am_vq (rl_rd (mem 29 5).toNat (mem 33) x) mem) := by
  refine fm_X4_roadBehind (fun n v1 v2 v3 m => m = mem ∧ v1 = x ∧ ∃ c : Nat, v3 = c ∧ (c : Int) ≤ mem 29 5 ∧ 0 ≤ v2 ∧ v2 ≤ 20 * c ∧ rl_rd (mem 29 5).toNat (mem 33) x = rl_rdF ((mem 29 5).toNat - c) c v2 (mem 33) x ∧ n = 6 - c) ⟨6, rfl, rfl, rfl, 0, rfl, h0, by omega, by omega, rfl, rfl⟩ ?_
  rintro n v1 v2 v3 m ⟨rfl, rfl, c, rfl, hc, hv, hv', he, rfl⟩
  refine ⟨fun h => ⟨?_, rfl⟩, fun h => ⟨fun h2 => by omega, fun h2 => ⟨by omega, ?_⟩⟩⟩
  · rw [he, show (m 29 5).toNat - c = 0 by omega]; rfl
  · have := hm c h
    rw [Int.toNat_natCast]
    have e2 : (m 29 5).toNat - c = ((m 29 5).toNat - (c + 1)) + 1 := by omega
    rw [e2] at he
    refine ⟨by omega, fun h3 => ⟨by omega, 6 - (c + 1), by omega, rfl, rfl, rfl, c + 1, by omega, by omega, by omega, by omega, ?_, rfl⟩, fun h3 => ⟨?_, rfl⟩⟩
    · rw [he, rl_rdF, if_neg (by omega)]
    · rw [he, rl_rdF, if_pos h3]
theorem sp_wayIn {w c : Int} (h4 : mem 29 4 ≤ 4) (hw : 0 ≤ w) (hc : 0 ≤ c) (hc' : c < mem 29 4) : am_Mt l g 25 [.inr (.inl 29), .inl w, .inl c] mem (am_vq (w / 2 ^ (2 * (mem 29 4 - 1 - c)).toNat % 4) mem) := by
  refine fm_X4_wayIn ⟨by omega, by omega, by omega, by omega, Or.inl rfl, rfl, rfl⟩
theorem sp_pulledFront {w : Int} (h0 : 0 ≤ mem 29 4) (h4 : mem 29 4 ≤ 4) (hw : 0 ≤ w) (ht : ∀ c : Nat, (c : Int) < mem 29 4 → 0 ≤ mem 31 c ∧ mem 31 c ≤ 99) : am_Mt l g 26 [.inr (.inl 29), .inl w] mem (am_vq (rl_sm (mem 29 4).toNat (fun c => rl_cf (w / 2 ^ (2 * (mem 29 4 - 1 - (c : Int))).toNat % 4) (mem 31 c))) mem) := by
  refine fm_X4_pulledFront (fun n v1 v2 v3 m => m = mem ∧ v1 = w ∧ ∃ c : Nat, v3 = c ∧ (c : Int) ≤ mem 29 4 ∧ v2 = rl_sm c (fun c => rl_cf (w / 2 ^ (2 * (mem 29 4 - 1 - (c : Int))).toNat % 4) (mem 31 c)) ∧ n = 4 - c) ⟨4, rfl, rfl, rfl, 0, rfl, h0, rfl, rfl⟩ ?_
  rintro n v1 v2 v3 m ⟨rfl, rfl, c, rfl, hc, rfl, rfl⟩
  have hb := rl_sm_bd (f := fun c => rl_cf (v1 / 2 ^ (2 * (m 29 4 - 1 - (c : Int))).toNat % 4) (m 31 c)) (K := 99) c (fun r hr => (rl_cf_bd (ht r (by omega)).1 (ht r (by omega)).2).1)
  refine ⟨fun h => ⟨?_, rfl⟩, fun h => ⟨fun h2 => by omega, fun h2 => am_cl (sp_wayIn h4 hw (by omega) h) ⟨by omega, ?_⟩⟩⟩
  · rw [show (m 29 4).toNat = c by omega]
  · have h3 := ht c h
    rw [Int.toNat_natCast]
    have h5 := (rl_cf_bd (way := v1 / 2 ^ (2 * (m 29 4 - 1 - (c : Int))).toNat % 4) h3.1 h3.2).1
    exact am_cl (sp_cordFront h3.1) ⟨by omega, by omega, 4 - (c + 1), by omega, rfl, rfl, rfl, c + 1, by omega, by omega, rfl, rfl⟩
theorem sp_pulledBack {w : Int} (h0 : 0 ≤ mem 29 4) (h4 : mem 29 4 ≤ 4) (hw : 0 ≤ w) (ht : ∀ c : Nat, (c : Int) < mem 29 4 → 0 ≤ mem 31 c ∧ mem 31 c ≤ 99) : am_Mt l g 27 [.inr (.inl 29), .inl w] mem (am_vq (rl_sm (mem 29 4).toNat (fun c => rl_cb (w / 2 ^ (2 * (mem 29 4 - 1 - (c : Int))).toNat % 4) (mem 31 c))) mem) := by
  refine fm_X4_pulledBack (fun n v1 v2 v3 m => m = mem ∧ v1 = w ∧ ∃ c : Nat, v3 = c ∧ (c : Int) ≤ mem 29 4 ∧ v2 = rl_sm c (fun c => rl_cb (w / 2 ^ (2 * (mem 29 4 - 1 - (c : Int))).toNat % 4) (mem 31 c)) ∧ n = 4 - c) ⟨4, rfl, rfl, rfl, 0, rfl, h0, rfl, rfl⟩ ?_
  rintro n v1 v2 v3 m ⟨rfl, rfl, c, rfl, hc, rfl, rfl⟩
  have hb := rl_sm_bd (f := fun c => rl_cb (v1 / 2 ^ (2 * (m 29 4 - 1 - (c : Int))).toNat % 4) (m 31 c)) (K := 99) c (fun r hr => (rl_cf_bd (ht r (by omega)).1 (ht r (by omega)).2).2)
  refine ⟨fun h => ⟨?_, rfl⟩, fun h => ⟨fun h2 => by omega, fun h2 => am_cl (sp_wayIn h4 hw (by omega) h) ⟨by omega, ?_⟩⟩⟩
  · rw [show (m 29 4).toNat = c by omega]
  · have h3 := ht c h
    rw [Int.toNat_natCast]
    have h5 := (rl_cf_bd (way := v1 / 2 ^ (2 * (m 29 4 - 1 - (c : Int))).toNat % 4) h3.1 h3.2).2
    exact am_cl (sp_cordBack h3.1 h3.2) ⟨by omega, by omega, 4 - (c + 1), by omega, rfl, rfl, rfl, c + 1, by omega, by omega, rfl, rfl⟩
end SPA
