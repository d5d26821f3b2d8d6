/-! calls on both sides: the answers are alike, and the relation stays -/
def rl_Q2 (t z : Int) : am_Po := fun z2 m2 => z2 = z ∧ rl_R (t + 1) m2 m2
def rl_Q1 (l : Launch) (g : am_G) (y : Nat) (as : List am_AV) (t : Int) : am_Po := fun z m => am_Mt l g y as m (rl_Q2 t z)
theorem am_up_at (mem : am_Mem) (a j : Nat) (z : Int) : am_up mem a j z a j = z := by unfold am_up; rw [if_pos ⟨rfl, rfl⟩]
theorem am_up_ni {mem : am_Mem} {a j i : Nat} {z : Int} (h : i ≠ j) : am_up mem a j z a i = mem a i := by unfold am_up; rw [if_neg (fun w => h w.2)]
section OPA
variable {l : Launch} {g : am_G} {mem : am_Mem} {t : Int}
theorem rl_R1 (hR : rl_R t mem mem) : rl_R (t + 1) mem mem := rl_R_t (by omega) hR
theorem op_fault (hR : rl_R t mem mem) : am_Mt l g 49 [.inr (.inl 17)] mem (rl_Q1 l g 107 [.inr (.inl 0)] t) :=
  fm_X9_fault (fm_X10_fault ⟨hR.2.2.2.2.2.2.2.2.1.symm, rl_R1 hR⟩)
theorem op_seed {v : Int} (hR : rl_R t mem mem) (hv : v ≤ 2147483647) : am_Mt l g 76 [.inr (.inl 17), .inl v] mem (rl_Q1 l g 152 [.inr (.inl 0), .inl v] t) := by
  refine fm_X9_seed ⟨fun h => fm_X10_seed ⟨fun _ => ⟨?_, ?_⟩, fun h2 => by omega⟩, fun h => fm_X10_seed ⟨fun h2 => by omega, fun _ => ⟨rfl, rl_R1 hR⟩⟩⟩
  · exact hR.2.2.2.2.2.2.2.2.2.1.symm
  · obtain ⟨a, b, c, d, e, f, i, j, k⟩ := rl_R1 hR
    exact ⟨a, b, c, d, e, f, i, j, k.1, rfl, h, hv⟩
theorem op_tear (hR : rl_R t mem mem) : am_Mt l g 75 [.inr (.inl 17)] mem (rl_Q1 l g 151 [.inr (.inl 0)] t) := by
  obtain ⟨a, b, c, d, e, f, i, j, k⟩ := rl_R1 hR
  have f1 := f.1.1
  have f2 := f.2.1
  have i1 := i.1
  have i2 := i.2.1
  refine fm_X9_tear ⟨by omega, fm_X10_tear ⟨?_, ?_, ?_⟩⟩
  · show _ ≤ mem 0 29 + mem 0 31 ∧ mem 0 29 + mem 0 31 ≤ _; omega
  · show mem 0 29 + mem 0 31 = _; omega
  · exact ⟨a, b, c, d, e, ⟨⟨⟨Int.le_refl 0, by show (0 : Int) ≤ 6; omega⟩, fun k hk => absurd hk (by show ¬ (k : Int) < 0; omega)⟩, rfl, fun k hk => absurd hk (by show ¬ (k : Int) < 0; omega)⟩, ⟨⟨Int.le_refl 0, by show (0 : Int) ≤ 20; omega⟩, rfl, fun k hk => absurd hk (by show ¬ (k : Int) < 0; omega)⟩, j, k⟩
theorem op_van {x q y : Int} (hR : rl_R t mem mem) : am_Mt l g 68 [.inr (.inl 17), .inl x, .inl q, .inl y] mem (rl_Q1 l g 142 [.inr (.inl 0), .inl x, .inl q, .inl y] t) := by
  have R1 := rl_R1 hR
  refine fm_X9_van (am_cbe (sp_within x 0 999) (fun h1 => am_cbe (sp_within q 0 100) (fun h2 => am_cbn (sp_within y 0 9999) (fun h3 => ?_) (fun h3 => ?_)) (fun h2 => ?_)) (fun h1 => ?_))
  · have hb := am_mulb h2.1 h2.2 h3.1 h3.2
    refine ⟨by omega, by omega, fun h4 => ?_, fun h4 => ?_⟩
    · exact fm_X10_van (am_cbe (mp_in x 0 999) (fun _ => am_cbe (mp_in q 0 100) (fun _ => am_cbn (mp_in y 0 9999) (fun _ => ⟨by omega, by omega, fun _ => ⟨rfl, R1⟩, fun h => by omega⟩) (fun h => absurd h3 h)) (fun h => absurd h2 h)) (fun h => absurd h1 h))
    · exact fm_X10_van (am_cbe (mp_in x 0 999) (fun _ => am_cbe (mp_in q 0 100) (fun _ => am_cbn (mp_in y 0 9999) (fun _ => ⟨by omega, by omega, fun h => by omega, fun _ => ⟨rfl, R1⟩⟩) (fun h => absurd h3 h)) (fun h => absurd h2 h)) (fun h => absurd h1 h))
  · exact fm_X10_van (am_cbe (mp_in x 0 999) (fun _ => am_cbe (mp_in q 0 100) (fun _ => am_cbn (mp_in y 0 9999) (fun h => absurd h h3) (fun _ => ⟨rfl, R1⟩)) (fun h => absurd h2 h)) (fun h => absurd h1 h))
  · exact fm_X10_van (am_cbe (mp_in x 0 999) (fun _ => am_cbe (mp_in q 0 100) (fun h => absurd h h2) (fun _ => ⟨rfl, R1⟩)) (fun h => absurd h1 h))
  · exact fm_X10_van (am_cbe (mp_in x 0 999) (fun h => absurd h h1) (fun _ => ⟨rfl, R1⟩))
theorem op_told {w : Int} (hR : rl_R t mem mem) : am_Mt l g 50 [.inr (.inl 17), .inl w] mem (rl_Q1 l g 109 [.inr (.inl 0), .inl w] t) := by
  have R1 := rl_R1 hR
  have hX := hR.1
  have hMP := rl_R_MP hR
  have ham := rl_R_am hR
  have hbd := rl_am_bd hX.1
  have hN := rl_X_now hX
  have h5 := hX.1.2.2.2.2.1
  have c0 := hR.2.2.1.1 0 (by omega)
  have c1 : mem 36 1 = mem 8 1 := hR.2.2.1.1 1 (by omega)
  have c2 : mem 36 2 = mem 8 2 := hR.2.2.1.1 2 (by omega)
  have c3 : mem 36 3 = mem 8 3 := hR.2.2.1.1 3 (by omega)
  have c4 : mem 36 4 = mem 8 4 := hR.2.2.1.1 4 (by omega)
  obtain ⟨b0, b2, b3, b4, b5, -, br⟩ := hR.2.1
  have d2 := hR.2.2.2.1.2.1
  have f2 := hR.2.2.2.2.2.1.2.1
  have i2 := hR.2.2.2.2.2.2.1.2.1
  have j2 := hR.2.2.2.2.2.2.2.1.2.1
  have erd : rl_rd (mem 0 17).toNat (fun r => mem 7 (3 * r)) (mem 8 1) = rl_rd (mem 29 5).toNat (mem 33) (mem 36 1) := by
    unfold rl_rd
    rw [← b5, ← c1]
    exact rl_rd_cg _ _ _ (fun r hr => ((br r (by omega)).1).symm)
  have key : ∀ z, (w < 0 → z = -1000000002) → (w = 0 → z = mem 36 0) → (w = 1 → z = mem 29 2) → (w = 2 → z = mem 29 3) → (w = 3 → z = mem 29 4) → (w = 4 → z = mem 29 5) → (w = 5 → z = mem 18 1) → (w = 6 → z = mem 36 1) → (w = 7 → z = rl_am mem - mem 36 1) → (w = 8 → z = rl_rd (mem 29 5).toNat (mem 33) (mem 36 1)) → (w = 9 → z = mem 36 2) → (w = 10 → z = mem 36 3) → (w = 11 → z = mem 36 4) → (w = 12 → z = mem 46 4) → (w = 13 → z = mem 51 2) → (w = 14 → z = mem 40 2) → (15 ≤ w → z = -1000000002) → am_Mt l g 109 [.inr (.inl 0), .inl w] mem (rl_Q2 t z) := by
    intro z k0 k1 k2 k3 k4 k5 k6 k7 k8 k9 k10 k11 k12 k13 k14 k15 k16
    refine fm_X10_told ⟨fun h => ⟨(k0 h).symm, R1⟩, fun h => ⟨by omega, ?_, R1⟩, fun h => ⟨by omega, ?_, R1⟩, fun h => ⟨by omega, ?_, R1⟩, fun h => ⟨?_, R1⟩, fun h => ⟨?_, R1⟩, fun h => ⟨?_, R1⟩, fun h => ⟨by omega, ?_, R1⟩, fun h => am_cl (mp_allMiles hMP) ⟨by omega, by omega, ?_, R1⟩, fun h => ⟨by omega, am_cl (mp_roadOf hMP) ⟨?_, R1⟩⟩, fun h => ⟨by omega, ?_, R1⟩, fun h => ⟨by omega, ?_, R1⟩, fun h => ⟨by omega, ?_, R1⟩, fun h => ⟨?_, R1⟩, fun h => ⟨?_, R1⟩, fun h => ⟨?_, R1⟩, fun h => ⟨(k16 h).symm, R1⟩⟩
    · rw [k1 h]; exact c0.symm
    · rw [k2 h]; exact b2.symm
    · rw [k3 h]; exact b3.symm
    · rw [k4 h]; exact b4.symm
    · rw [k5 h]; exact b5.symm
    · rw [k6 h]; exact j2
    · rw [k7 h]; exact c1.symm
    · rw [k8 h, ham]; omega
    · rw [k9 h]; exact erd
    · rw [k10 h]; exact c2.symm
    · rw [k11 h]; exact c3.symm
    · rw [k12 h]; exact c4.symm
    · rw [k13 h]; exact f2
    · rw [k14 h]; exact i2
    · rw [k15 h]; exact d2
  refine fm_X9_told ⟨fun h => ?_, fun h => ?_, fun h => ?_, fun h => ?_, fun h => ?_, fun h => ?_, fun h => ?_, fun h => ?_, fun h => am_cl (sp_milesLeft hX) ?_, fun h => am_cl (sp_roadBehind h5.1 h5.2 (rl_hm hX.1)) ?_, fun h => ?_, fun h => ?_, fun h => ?_, fun h => ?_, fun h => ?_, fun h => ?_, fun h => ?_⟩
  all_goals (refine key _ ?_ ?_ ?_ ?_ ?_ ?_ ?_ ?_ ?_ ?_ ?_ ?_ ?_ ?_ ?_ ?_ ?_ <;> first | (intro _; rfl) | (intro _; omega))
theorem op_cord {c w : Int} (hR : rl_R t mem mem) : am_Mt l g 51 [.inr (.inl 17), .inl c, .inl w] mem (rl_Q1 l g 110 [.inr (.inl 0), .inl c, .inl w] t) := by
  have R1 := rl_R1 hR
  have p4 := hR.1.1.2.2.2.1
  obtain ⟨b0, b2, b3, b4, b5, bc, br⟩ := hR.2.1
  have hc4 : 0 ≤ mem 0 16 ∧ mem 0 16 ≤ 4 := by omega
  refine fm_X9_cord (am_cbn (sp_hasCord p4.2) (fun h1 => ?_) (fun h1 => ?_))
  · obtain ⟨k, rfl⟩ := Int.eq_ofNat_of_zero_le h1.1
    have h1c : (k : Int) < mem 29 4 := h1.2
    obtain ⟨e5, e9, e13⟩ := hR.2.2.1.2 k h1c
    rw [rl_xw5 _ (by omega)] at e5
    rw [rl_xw9 _ (by omega)] at e9
    rw [rl_xw13 _ (by omega)] at e13
    have bk := bc k h1c
    have key : ∀ z, (w < 0 → z = -1000000002) → (w = 0 → z = mem 37 k) → (w = 1 → z = mem 31 k) → (w = 2 → z = mem 32 k) → (w = 3 → z = mem 38 k) → (w = 4 → z = mem 39 k) → (5 ≤ w → z = -1000000002) → am_Mt l g 110 [.inr (.inl 0), .inl (k : Int), .inl w] mem (rl_Q2 t z) := by
      intro z k0 k1 k2 k3 k4 k5 k6
      refine fm_X10_cord (am_cbn (mp_isCord hc4.1 hc4.2) (fun _ => ?_) (fun h => absurd ⟨h1.1, by omega⟩ h))
      rw [rl_k5, rl_k1, rl_k2, rl_k9, rl_k13]
      refine ⟨fun h => ⟨(k0 h).symm, R1⟩, fun h => ⟨by omega, by omega, ?_, R1⟩, fun h => ⟨by omega, by omega, by omega, ?_, R1⟩, fun h => ⟨by omega, by omega, by omega, ?_, R1⟩, fun h => ⟨by omega, by omega, ?_, R1⟩, fun h => ⟨by omega, by omega, ?_, R1⟩, fun h => ⟨(k6 h).symm, R1⟩⟩
      · rw [k1 h]; exact e5.symm
      · rw [k2 h]; exact bk.1.symm
      · rw [k3 h]; exact bk.2.symm
      · rw [k4 h]; exact e9.symm
      · rw [k5 h]; exact e13.symm
    rw [Int.toNat_natCast]
    refine ⟨fun h => ?_, fun h => ⟨by omega, ?_⟩, fun h => ⟨by omega, ?_⟩, fun h => ⟨by omega, ?_⟩, fun h => ⟨by omega, ?_⟩, fun h => ⟨by omega, ?_⟩, fun h => ?_⟩
    all_goals (refine key _ ?_ ?_ ?_ ?_ ?_ ?_ ?_ <;> first | (intro _; rfl) | (intro _; omega))
  · exact fm_X10_cord (am_cbn (mp_isCord hc4.1 hc4.2) (fun h => absurd ⟨h.1, by omega⟩ h1) (fun _ => ⟨rfl, R1⟩))
theorem op_road {c w : Int} (hR : rl_R t mem mem) : am_Mt l g 52 [.inr (.inl 17), .inl c, .inl w] mem (rl_Q1 l g 111 [.inr (.inl 0), .inl c, .inl w] t) := by
  have R1 := rl_R1 hR
  have p5 := hR.1.1.2.2.2.2.1
  obtain ⟨b0, b2, b3, b4, b5, bc, br⟩ := hR.2.1
  refine fm_X9_road (am_cbn (sp_hasRoad p5.2) (fun h1 => ?_) (fun h1 => ?_))
  · obtain ⟨k, rfl⟩ := Int.eq_ofNat_of_zero_le h1.1
    have h1c : (k : Int) < mem 29 5 := h1.2
    have bk := br k h1c
    have key : ∀ z, (w < 0 → z = -1000000002) → (w = 0 → z = mem 33 k) → (w = 1 → z = mem 34 k) → (w = 2 → z = mem 35 k) → (3 ≤ w → z = -1000000002) → am_Mt l g 111 [.inr (.inl 0), .inl (k : Int), .inl w] mem (rl_Q2 t z) := by
      intro z k0 k1 k2 k3 k4
      refine fm_X10_road ⟨by omega, am_cbn (mp_in _ _ _) (fun _ => am_cbe (mp_in _ _ _) (fun hw => ⟨by omega, by omega, by omega, ?_, R1⟩) (fun hw => ⟨?_, R1⟩)) (fun h => absurd ⟨by omega, by omega⟩ h)⟩
      · rcases (show w = 0 ∨ w = 1 ∨ w = 2 by omega) with rfl | rfl | rfl
        · rw [k1 rfl, show (3 * (k : Int) + 0).toNat = 3 * k by omega]; exact bk.1.symm
        · rw [k2 rfl, rl_k1]; exact bk.2.1.symm
        · rw [k3 rfl, rl_k2]; exact bk.2.2.symm
      · rcases (show w < 0 ∨ 3 ≤ w by omega) with h | h
        · exact (k0 h).symm
        · exact (k4 h).symm
    rw [Int.toNat_natCast]
    refine ⟨fun h => ?_, fun h => ⟨by omega, ?_⟩, fun h => ⟨by omega, ?_⟩, fun h => ⟨by omega, ?_⟩, fun h => ?_⟩
    all_goals (refine key _ ?_ ?_ ?_ ?_ ?_ <;> first | (intro _; rfl) | (intro _; omega))
  · exact fm_X10_road ⟨by omega, am_cbn (mp_in _ _ _) (fun h => absurd ⟨by omega, by omega⟩ h1) (fun _ => ⟨rfl, R1⟩)⟩
theorem op_feed {v : Int} (hR : rl_R t mem mem) : am_Mt l g 47 [.inr (.inl 17), .inl v] mem (rl_Q1 l g 95 [.inr (.inl 0), .inl v] t) := by
  have R1 := rl_R1 hR
  obtain ⟨a, b, c, d, e, f, i, j, k⟩ := id R1
  obtain ⟨j1, j2, j3⟩ := id j
  refine fm_X9_feed (am_cbn (sp_within v 0 255) (fun h1 => am_cq (sp_tadd j1.1) ?_) (fun h1 => fm_X10_feed (am_cbn (mp_in v 0 255) (fun h => absurd h h1) (fun _ => ⟨rfl, R1⟩))))
  rintro z m (⟨hc, rfl, rfl⟩ | ⟨hc, rfl, rfl⟩)
  · refine ⟨fun h => by omega, fun _ => ?_⟩
    have e0 : rl_feed mem v 0 0 = mem 0 0 := rfl
    have e18 : rl_feed mem v 18 1 = mem 18 1 + 1 := rfl
    refine fm_X10_feed (am_cbn (mp_in v 0 255) (fun _ => ⟨fun _ => ⟨by omega, by omega, by rw [e0, e18]; omega, ?_⟩, fun h => by omega⟩) (fun h => absurd h1 h))
    refine ⟨a, b, c, d, e, f, i, ⟨?_, ?_, fun q hq => ?_⟩, k⟩
    · show 0 ≤ mem 18 1 + 1 ∧ mem 18 1 + 1 ≤ 200; omega
    · show mem 0 0 + 1 = mem 18 1 + 1; omega
    · have hq : (q : Int) < mem 18 1 + 1 := hq
      show am_up mem 19 (mem 18 1).toNat v 19 q = am_up mem 1 (mem 0 0).toNat v 1 q ∧ (0 ≤ am_up mem 1 (mem 0 0).toNat v 1 q ∧ am_up mem 1 (mem 0 0).toNat v 1 q ≤ 255)
      rw [j2]
      by_cases hh : q = (mem 18 1).toNat
      · rw [hh, am_up_at, am_up_at]; exact ⟨rfl, h1⟩
      · rw [am_up_ni hh, am_up_ni hh]
        exact j3 q (by omega)
  · exact ⟨fun _ => fm_X10_feed (am_cbn (mp_in v 0 255) (fun _ => ⟨fun h => by omega, fun _ => ⟨rfl, R1⟩⟩) (fun h => absurd h1 h)), fun h => absurd rfl h⟩
end OPA
