section OPC
variable {l : Launch} {g : am_G} {mem : am_Mem} {t : Int}
/-- hold on both sides -/
theorem rl_R_hf {x m : am_Mem} (hR : rl_R t x m) : rl_hf (m 0 16).toNat (m 8 0) (fun c => m 8 (5 + c)) (fun c => m 8 (9 + c)) = rl_hf (x 29 4).toNat (x 36 0) (x 37) (x 38) := by
  have p4 := hR.1.1.2.2.2.1
  have b4 := hR.2.1.2.2.2.1
  have c0 : x 36 0 = m 8 0 := hR.2.2.1.1 0 (by omega)
  simp only [rl_hf]
  rw [← b4, ← c0]
  congr 1
  refine rl_sm_cg _ (fun c hc => ?_)
  obtain ⟨e5, e9, -⟩ := hR.2.2.1.2 c (by omega)
  rw [rl_xw5 _ (by omega)] at e5
  rw [rl_xw9 _ (by omega)] at e9
  rw [e5, e9]
theorem rl_R_hb {x m : am_Mem} (hR : rl_R t x m) : rl_hb (m 0 16).toNat (m 8 0) (fun c => m 8 (5 + c)) (fun c => m 8 (9 + c)) = rl_hb (x 29 4).toNat (x 36 0) (x 37) (x 38) := by
  have p4 := hR.1.1.2.2.2.1
  have b4 := hR.2.1.2.2.2.1
  have c0 : x 36 0 = m 8 0 := hR.2.2.1.1 0 (by omega)
  simp only [rl_hb]
  rw [← b4, ← c0]
  congr 1
  refine rl_sm_cg _ (fun c hc => ?_)
  obtain ⟨e5, e9, -⟩ := hR.2.2.1.2 c (by omega)
  rw [rl_xw5 _ (by omega)] at e5
  rw [rl_xw9 _ (by omega)] at e9
  rw [e5, e9]
theorem rl_R_mh {x m : am_Mem} {v : Int} (hR : rl_R t x m) : rl_mh_n m 0 v ↔ rl_hn x v := by
  unfold rl_mh_n rl_hn
  rw [rl_R_hf hR, rl_R_hb hR, Int.add_zero, hR.2.1.2.1]
theorem op_lift {p u w : Int} (hR : rl_R t mem mem) : am_Mt l g 53 [.inr (.inl 17), .inl p, .inl u, .inl w] mem (rl_Q1 l g 117 [.inr (.inl 0), .inl p, .inl u, .inl w] t) := by
  have R1 := rl_R1 hR
  have hX := hR.1
  have hMP := rl_R_MP hR
  have hrk := rl_R_rok hR
  have p2 := hX.1.2.1
  obtain ⟨b0, b2, b3, b4, b5, -, br⟩ := hR.2.1
  have m2 := hMP.2.1
  refine fm_X9_lift (am_cbe (sp_within p 0 99) (fun h1 => am_cbe (sp_isGust u) (fun h2 => am_cbn (sp_within w 0 4) (fun h3 => ?_) (fun h3 => ?_)) (fun h2 => ?_)) (fun h1 => ?_))
  · have hv : 0 ≤ p + u ∧ p + u ≤ 140 := by omega
    have hL := rl_L_bd m2.1 m2.2 hv.1 hv.2
    have e1 : 2 * rl_L (mem 5 1) (p + u) / 3 = rl_F (mem 29 2) (p + u) := by unfold rl_F; rw [b2, Int.mul_comm]
    have e2 : rl_L (mem 5 1) (p + u) - 2 * rl_L (mem 5 1) (p + u) / 3 = rl_Bk (mem 29 2) (p + u) := by unfold rl_Bk; rw [b2, Int.mul_comm 2]
    have hok : rl_mh_n mem 0 (p + u) ↔ rl_hn mem (p + u) := rl_R_mh hR
    have key : ∀ z, (w = 0 → z = rl_F (mem 29 2) (p + u)) → (w = 1 → z = rl_Bk (mem 29 2) (p + u)) → (w = 2 → z = rl_hf (mem 29 4).toNat (mem 36 0) (mem 37) (mem 38)) → (w = 3 → z = rl_hb (mem 29 4).toNat (mem 36 0) (mem 37) (mem 38)) → (w = 4 → (rl_hn mem (p + u) ∧ z = 1) ∨ (¬ rl_hn mem (p + u) ∧ z = 0)) → ¬ mem 29 0 = 0 → am_Mt l g 117 [.inr (.inl 0), .inl p, .inl u, .inl w] mem (rl_Q2 t z) := by
      intro z k0 k1 k2 k3 k4 ht
      refine fm_X10_lift (am_cbe (mp_in p 0 99) (fun _ => am_cbe (mp_in u 0 30) (fun _ => am_cbn (mp_in w 0 4) (fun _ => ⟨fun _ => am_cl (mp_liftBy m2.1 m2.2 hv.1 hv.2) ⟨by omega, by omega, fun h => by omega, fun h => ⟨?_, R1⟩, fun h => ⟨by omega, ?_, R1⟩, fun h => am_cl (mp_frontHold_n hMP hrk) ⟨?_, R1⟩, fun h => am_cl (mp_backHold_n hMP hrk) ⟨?_, R1⟩, fun h => am_cbe (mp_holds_n hMP hrk hv.1 hv.2) (fun hh => ⟨?_, R1⟩) (fun hh => ⟨?_, R1⟩)⟩, fun h => by omega⟩) (fun h => absurd h3 h)) (fun h => absurd h2 h)) (fun h => absurd h1 h))
      · rw [k0 h]; exact e1
      · rw [k1 h]; exact e2
      · rw [k2 h]; exact rl_R_hf hR
      · rw [k3 h]; exact rl_R_hb hR
      · rcases k4 (by omega) with ⟨_, q⟩ | ⟨q, _⟩
        · exact q.symm
        · exact absurd (hok.mp hh) q
      · rcases k4 (by omega) with ⟨q, _⟩ | ⟨_, q⟩
        · exact absurd (hok.mpr q) hh
        · exact q.symm
    refine ⟨fun ht => am_cl (sp_liftFront p2.1 p2.2 hv.1 hv.2) (am_cl (sp_liftBack p2.1 p2.2 hv.1 hv.2) ⟨fun h => by omega, fun h => ?_, fun h => ?_, fun h => am_cl (sp_holdF hX) ?_, fun h => am_cl (sp_holdB hX) ?_, fun h => am_cl (sp_holdF hX) ⟨fun h4 => ?_, fun h4 => am_cl (sp_holdB hX) ⟨fun h5 => ?_, fun h5 => ?_⟩⟩⟩), fun ht => ?_⟩
    · exact key _ (fun _ => rfl) (fun _ => by omega) (fun _ => by omega) (fun _ => by omega) (fun _ => by omega) ht
    · exact key _ (fun _ => by omega) (fun _ => rfl) (fun _ => by omega) (fun _ => by omega) (fun _ => by omega) ht
    · exact key _ (fun _ => by omega) (fun _ => by omega) (fun _ => rfl) (fun _ => by omega) (fun _ => by omega) ht
    · exact key _ (fun _ => by omega) (fun _ => by omega) (fun _ => by omega) (fun _ => rfl) (fun _ => by omega) ht
    · exact key _ (fun _ => by omega) (fun _ => by omega) (fun _ => by omega) (fun _ => by omega) (fun _ => Or.inr ⟨fun q => by have := q.1; omega, rfl⟩) ht
    · exact key _ (fun _ => by omega) (fun _ => by omega) (fun _ => by omega) (fun _ => by omega) (fun _ => Or.inr ⟨fun q => by have := q.2; omega, rfl⟩) ht
    · exact key _ (fun _ => by omega) (fun _ => by omega) (fun _ => by omega) (fun _ => by omega) (fun _ => Or.inl ⟨⟨h4, h5⟩, rfl⟩) ht
    · exact fm_X10_lift (am_cbe (mp_in p 0 99) (fun _ => am_cbe (mp_in u 0 30) (fun _ => am_cbn (mp_in w 0 4) (fun _ => ⟨fun h => by omega, fun _ => ⟨rfl, R1⟩⟩) (fun h => absurd h3 h)) (fun h => absurd h2 h)) (fun h => absurd h1 h))
  · exact fm_X10_lift (am_cbe (mp_in p 0 99) (fun _ => am_cbe (mp_in u 0 30) (fun _ => am_cbn (mp_in w 0 4) (fun h => absurd h h3) (fun _ => ⟨rfl, R1⟩)) (fun h => absurd h2 h)) (fun h => absurd h1 h))
  · exact fm_X10_lift (am_cbe (mp_in p 0 99) (fun _ => am_cbe (mp_in u 0 30) (fun h => absurd h h2) (fun _ => ⟨rfl, R1⟩)) (fun h => absurd h1 h))
  · exact fm_X10_lift (am_cbe (mp_in p 0 99) (fun h => absurd h h1) (fun _ => ⟨rfl, R1⟩))
/-- the highest pace, found from below and from above -/
theorem rl_hi_cl {A hf hb gu z z' : Int} (hA : 0 ≤ A) (hg : 0 ≤ gu) (hc : rl_cl A hf hb 9 gu z) (hh : rl_hi (fun p => rl_ok A hf hb (p + gu)) z') : z' = if z = 9 then -1 else z := by
  obtain ⟨h1, h2, h3, h4⟩ := hc
  rcases hh with ⟨rfl, h⟩ | ⟨g1, g2, g3, g4⟩
  · by_cases e : z = 9
    · rw [if_pos e]
    · exact absurd (h3 z (by omega) (by omega)) (h z (by omega) h2)
  · have hle : z' ≤ z := by
      rcases (show z < z' ∨ z' ≤ z by omega) with q | q
      · have : rl_ok A hf hb (z + 1 + gu) := rl_ok_mono hA (by omega) (by omega : z + 1 + gu ≤ z' + gu) g3
        exact absurd this (h4 (by omega))
      · exact q
    have hge : z ≤ z' := by
      rcases (show z' < z ∨ z ≤ z' by omega) with q | q
      · exact absurd (h3 z (by omega) (by omega)) (g4 z q h2)
      · exact q
    rw [if_neg (by omega)]; omega
theorem op_highest {u : Int} (hR : rl_R t mem mem) : am_Mt l g 61 [.inr (.inl 17), .inl u] mem (rl_Q1 l g 132 [.inr (.inl 0), .inl u] t) := by
  have R1 := rl_R1 hR
  have hX := hR.1
  have hMP := rl_R_MP hR
  have hrk := rl_R_rok hR
  have p2 := hX.1.2.1
  have b0 := hR.2.1.1
  have b2 := hR.2.1.2.1
  refine fm_X9_highest (am_cbn (sp_isGust u) (fun h1 => ⟨fun ht => am_cl (sp_holdF hX) (am_cl (sp_holdB hX) (am_cq (sp_climb p2.1 p2.2 (by omega) (by omega) h1.1 h1.2) ?_)), fun ht => ?_⟩) (fun h1 => ?_))
  · rintro z m ⟨rfl, hz⟩
    have key : am_Mt l g 132 [.inr (.inl 0), .inl u] m (rl_Q2 t (if z = 9 then -1 else z)) := by
      refine fm_X10_highest (am_cbn (mp_in u 0 30) (fun _ => ⟨fun h => by omega, fun _ => am_cq (mp_highestBy_n hMP hrk h1.1 h1.2 (by omega) (by omega)) ?_⟩) (fun h => absurd h1 h))
      rintro z' m' ⟨rfl, hz'⟩
      refine ⟨rl_hi_cl p2.1 h1.1 hz ?_, R1⟩
      have e : (fun p => rl_mh_n m' 0 (p + u)) = fun p => rl_ok (m' 29 2) (rl_hf (m' 29 4).toNat (m' 36 0) (m' 37) (m' 38)) (rl_hb (m' 29 4).toNat (m' 36 0) (m' 37) (m' 38)) (p + u) := by
        funext p; exact propext (rl_R_mh hR)
      rw [← e]; exact hz'
    refine ⟨fun h => ?_, fun h => ?_⟩
    · rw [if_neg h] at key; exact key
    · rw [if_pos h] at key; exact key
  · exact fm_X10_highest (am_cbn (mp_in u 0 30) (fun _ => ⟨fun _ => ⟨rfl, R1⟩, fun h => by omega⟩) (fun h => absurd h1 h))
  · exact fm_X10_highest (am_cbn (mp_in u 0 30) (fun h => absurd h h1) (fun _ => ⟨rfl, R1⟩))
end OPC
