section OPB
variable {l : Launch} {g : am_G} {mem : am_Mem} {t : Int}
theorem rl_p2 (n : Int) (h : 0 ≤ n) : (2 * n).toNat = 2 * n.toNat := by omega
theorem op_write {c v : Int} (hR : rl_R t mem mem) : am_Mt l g 73 [.inr (.inl 17), .inl c, .inl v] mem (rl_Q1 l g 149 [.inr (.inl 0), .inl c, .inl v] t) := by
  have R1 := rl_R1 hR
  have p4 := hR.1.1.2.2.2.1
  have b4 := hR.2.1.2.2.2.1
  have hc4 : 0 ≤ mem 0 16 ∧ mem 0 16 ≤ 4 := by omega
  obtain ⟨a, b, c', d, e, f, i, j, k⟩ := id R1
  obtain ⟨i1, i2, i3⟩ := id i
  refine fm_X9_write (am_cbn (sp_hasCord p4.2) (fun h1 => am_cbn (sp_within v 0 99) (fun h2 => am_cq (sp_badd i1.1) ?_) (fun h2 => fm_X10_write (am_cbn (mp_isCord hc4.1 hc4.2) (fun _ => am_cbn (mp_in v 0 99) (fun h => absurd h h2) (fun _ => ⟨rfl, R1⟩)) (fun h => absurd ⟨h1.1, by omega⟩ h)))) (fun h1 => fm_X10_write (am_cbn (mp_isCord hc4.1 hc4.2) (fun h => absurd ⟨h.1, by omega⟩ h1) (fun _ => ⟨rfl, R1⟩))))
  rintro z m (⟨hc, rfl, rfl⟩ | ⟨hc, rfl, rfl⟩)
  · refine ⟨fun h => by omega, fun _ => ?_⟩
    have e0 : rl_wr mem c v 0 31 = mem 0 31 := rfl
    have e1 : rl_wr mem c v 51 2 = mem 51 2 + 1 := rfl
    have e16 : rl_wr mem c v 0 16 = mem 0 16 := rfl
    refine fm_X10_write (am_cbn (mp_isCord (mem := rl_wr mem c v) hc4.1 hc4.2) (fun _ => am_cbn (mp_in v 0 99) (fun _ => ⟨fun _ => ⟨by omega, by omega, by omega, by omega, by omega, by omega, by rw [e0, e1]; omega, ?_⟩, fun h => by omega⟩) (fun h => absurd h2 h)) (fun h => absurd ⟨h1.1, by rw [e16]; omega⟩ h))
    refine ⟨a, b, c', d, e, f, ⟨?_, ?_, fun q hq => ?_⟩, j, k⟩
    · show 0 ≤ mem 51 2 + 1 ∧ mem 51 2 + 1 ≤ 20; omega
    · show mem 0 31 + 1 = mem 51 2 + 1; omega
    · have hq : (q : Int) < mem 51 2 + 1 := hq
      show (0 ≤ am_up mem 52 (mem 51 2).toNat c 52 q ∧ am_up mem 52 (mem 51 2).toNat c 52 q < mem 29 4) ∧ am_up mem 52 (mem 51 2).toNat c 52 q = am_up (am_up mem 15 (2 * mem 0 31).toNat c) 15 (2 * mem 0 31 + 1).toNat v 15 (2 * q) ∧ am_up mem 53 (mem 51 2).toNat v 53 q = am_up (am_up mem 15 (2 * mem 0 31).toNat c) 15 (2 * mem 0 31 + 1).toNat v 15 (2 * q + 1)
      rw [i2]
      by_cases hh : q = (mem 51 2).toNat
      · have a1 : (2 * mem 51 2).toNat = 2 * q := by omega
        have a2 : (2 * mem 51 2 + 1).toNat = 2 * q + 1 := by omega
        rw [a1, a2, ← hh, am_up_at, am_up_at, am_up_ni (by omega), am_up_at, am_up_at]
        exact ⟨⟨h1.1, h1.2⟩, rfl, rfl⟩
      · rw [am_up_ni hh, am_up_ni hh, am_up_ni (by omega), am_up_ni (by omega), am_up_ni (by omega), am_up_ni (by omega)]
        exact i3 q (by omega)
  · refine ⟨fun _ => fm_X10_write (am_cbn (mp_isCord hc4.1 hc4.2) (fun _ => am_cbn (mp_in v 0 99) (fun _ => ⟨fun h => by omega, fun _ => ⟨rfl, R1⟩⟩) (fun h => absurd h2 h)) (fun h => absurd ⟨h1.1, by omega⟩ h)), fun h => absurd rfl h⟩
theorem op_see {c p u h : Int} (hR : rl_R t mem mem) (hh : h = 0 ∨ h = 1) : am_Mt l g 70 [.inr (.inl 17), .inl c, .inl p, .inl u, .inl h] mem (rl_Q1 l g 144 [.inr (.inl 0), .inl c, .inl p, .inl u, .inl h] t) := by
  have R1 := rl_R1 hR
  have p4 := hR.1.1.2.2.2.1
  have b4 := hR.2.1.2.2.2.1
  have hc4 : 0 ≤ mem 0 16 ∧ mem 0 16 ≤ 4 := by omega
  obtain ⟨a, b, c', d, e, f, i, j, k⟩ := id R1
  obtain ⟨f1, f2, f3⟩ := id f
  have f11 := f1.1
  refine fm_X9_see (am_cbn (sp_hasCord p4.2) (fun h1 => am_cbe (sp_isPace p) (fun h2 => am_cbn (sp_isGust u) (fun h3 => am_cq (sp_sadd f11.1 hh) ?_) (fun h3 => ?_)) (fun h2 => ?_)) (fun h1 => ?_))
  · rintro z m (⟨hc, rfl, rfl⟩ | ⟨hc, rfl, rfl⟩)
    · refine ⟨fun h => by omega, fun _ => ?_⟩
      have e0 : rl_see mem c p u h 0 29 = mem 0 29 := rfl
      have e1 : rl_see mem c p u h 46 4 = mem 46 4 + 1 := rfl
      have e16 : rl_see mem c p u h 0 16 = mem 0 16 := rfl
      have fin : ∀ hh', hh' = h → rl_Q2 t (rl_see mem c p u h 46 4) (rl_see mem c p u h 0 29 + 1) (am_up (am_up (am_up (am_up (am_up (rl_see mem c p u h) 14 (4 * rl_see mem c p u h 0 29).toNat c) 14 (4 * rl_see mem c p u h 0 29 + 1).toNat p) 14 (4 * rl_see mem c p u h 0 29 + 2).toNat u) 14 (4 * rl_see mem c p u h 0 29 + 3).toNat hh') 0 29 (rl_see mem c p u h 0 29 + 1)) := by
        rintro hh' rfl
        refine ⟨by rw [e0, e1]; omega, a, b, c', d, e, ⟨⟨?_, fun q hq => ?_⟩, ?_, fun q hq => ?_⟩, i, j, k⟩
        · show 0 ≤ mem 46 4 + 1 ∧ mem 46 4 + 1 ≤ 6; omega
        · have hq : (q : Int) < mem 46 4 + 1 := hq
          show (10 ≤ am_up mem 48 (mem 46 4).toNat p 48 q ∧ am_up mem 48 (mem 46 4).toNat p 48 q ≤ 70) ∧ (0 ≤ am_up mem 49 (mem 46 4).toNat u 49 q ∧ am_up mem 49 (mem 46 4).toNat u 49 q ≤ 30)
          by_cases hk : q = (mem 46 4).toNat
          · rw [hk, am_up_at, am_up_at]; exact ⟨h2, h3⟩
          · rw [am_up_ni hk, am_up_ni hk]; exact f1.2 q (by omega)
        · show mem 0 29 + 1 = mem 46 4 + 1; omega
        · have hq : (q : Int) < mem 46 4 + 1 := hq
          generalize hM : am_up (am_up (am_up (am_up mem 14 (4 * mem 0 29).toNat c) 14 (4 * mem 0 29 + 1).toNat p) 14 (4 * mem 0 29 + 2).toNat u) 14 (4 * mem 0 29 + 3).toNat hh' = M
          have key : (0 ≤ am_up mem 47 (mem 46 4).toNat c 47 q ∧ am_up mem 47 (mem 46 4).toNat c 47 q < mem 29 4) ∧ am_up mem 47 (mem 46 4).toNat c 47 q = M 14 (4 * q) ∧ am_up mem 48 (mem 46 4).toNat p 48 q = M 14 (4 * q + 1) ∧ am_up mem 49 (mem 46 4).toNat u 49 q = M 14 (4 * q + 2) ∧ am_up mem 50 (mem 46 4).toNat hh' 50 q = M 14 (4 * q + 3) ∧ (am_up mem 50 (mem 46 4).toNat hh' 50 q = 0 ∨ am_up mem 50 (mem 46 4).toNat hh' 50 q = 1) := by
            rw [← hM]
            by_cases hk : q = (mem 46 4).toNat
            · have a0 : (4 * mem 0 29).toNat = 4 * q := by omega
              have a1 : (4 * mem 0 29 + 1).toNat = 4 * q + 1 := by omega
              have a2 : (4 * mem 0 29 + 2).toNat = 4 * q + 2 := by omega
              have a3 : (4 * mem 0 29 + 3).toNat = 4 * q + 3 := by omega
              rw [a0, a1, a2, a3, ← hk, am_up_at, am_up_at, am_up_at, am_up_at]
              refine ⟨⟨h1.1, h1.2⟩, ?_, ?_, ?_, ?_, hh⟩
              · rw [am_up_ni (by omega), am_up_ni (by omega), am_up_ni (by omega), am_up_at]
              · rw [am_up_ni (by omega), am_up_ni (by omega), am_up_at]
              · rw [am_up_ni (by omega), am_up_at]
              · rw [am_up_at]
            · have a0 : (4 * mem 0 29).toNat = 4 * (mem 46 4).toNat := by omega
              have a1 : (4 * mem 0 29 + 1).toNat = 4 * (mem 46 4).toNat + 1 := by omega
              have a2 : (4 * mem 0 29 + 2).toNat = 4 * (mem 46 4).toNat + 2 := by omega
              have a3 : (4 * mem 0 29 + 3).toNat = 4 * (mem 46 4).toNat + 3 := by omega
              rw [a0, a1, a2, a3]
              have out : ∀ w, w < 4 → am_up (am_up (am_up (am_up mem 14 (4 * (mem 46 4).toNat) c) 14 (4 * (mem 46 4).toNat + 1) p) 14 (4 * (mem 46 4).toNat + 2) u) 14 (4 * (mem 46 4).toNat + 3) hh' 14 (4 * q + w) = mem 14 (4 * q + w) := fun w hw => by
                rw [am_up_ni (by omega), am_up_ni (by omega), am_up_ni (by omega), am_up_ni (by omega)]
              have o0 : am_up (am_up (am_up (am_up mem 14 (4 * (mem 46 4).toNat) c) 14 (4 * (mem 46 4).toNat + 1) p) 14 (4 * (mem 46 4).toNat + 2) u) 14 (4 * (mem 46 4).toNat + 3) hh' 14 (4 * q) = mem 14 (4 * q) := by
                rw [am_up_ni (by omega), am_up_ni (by omega), am_up_ni (by omega), am_up_ni (by omega)]
              rw [o0, out 1 (by omega), out 2 (by omega), out 3 (by omega), am_up_ni hk, am_up_ni hk, am_up_ni hk, am_up_ni hk]
              exact f3 q (by omega)
          rw [← hM] at key
          exact key
      refine fm_X10_see (am_cbn (mp_isCord (mem := rl_see mem c p u h) hc4.1 hc4.2) (fun _ => am_cbe (mp_in p 10 70) (fun _ => am_cbn (mp_in u 0 30) (fun _ => ⟨fun _ => ⟨by omega, by omega, by omega, by omega, by omega, by omega, by omega, by omega, by omega, by omega, fun h0 => ⟨by omega, by omega, fin 0 h0.symm⟩, fun h0 => ⟨by omega, by omega, fin 1 (by omega)⟩⟩, fun h => by omega⟩) (fun h => absurd h3 h)) (fun h => absurd h2 h)) (fun h => absurd ⟨h1.1, by rw [e16]; omega⟩ h))
    · exact ⟨fun _ => fm_X10_see (am_cbn (mp_isCord hc4.1 hc4.2) (fun _ => am_cbe (mp_in p 10 70) (fun _ => am_cbn (mp_in u 0 30) (fun _ => ⟨fun h => by omega, fun _ => ⟨rfl, R1⟩⟩) (fun h => absurd h3 h)) (fun h => absurd h2 h)) (fun h => absurd ⟨h1.1, by omega⟩ h)), fun h => absurd rfl h⟩
  · exact fm_X10_see (am_cbn (mp_isCord hc4.1 hc4.2) (fun _ => am_cbe (mp_in p 10 70) (fun _ => am_cbn (mp_in u 0 30) (fun h => absurd h h3) (fun _ => ⟨rfl, R1⟩)) (fun h => absurd h2 h)) (fun h => absurd ⟨h1.1, by omega⟩ h))
  · exact fm_X10_see (am_cbn (mp_isCord hc4.1 hc4.2) (fun _ => am_cbe (mp_in p 10 70) (fun h => absurd h h2) (fun _ => ⟨rfl, R1⟩)) (fun h => absurd ⟨h1.1, by omega⟩ h))
  · exact fm_X10_see (am_cbn (mp_isCord hc4.1 hc4.2) (fun h => absurd ⟨h.1, by omega⟩ h1) (fun _ => ⟨rfl, R1⟩))
theorem op_judge (hR : rl_R t mem mem) : am_Mt l g 74 [.inr (.inl 17)] mem (rl_Q1 l g 150 [.inr (.inl 0)] t) := by
  have R1 := rl_R1 hR
  have p4 := hR.1.1.2.2.2.1
  obtain ⟨i1, i2, i3⟩ := hR.2.2.2.2.2.2.1
  have hc : ∀ k : Nat, (k : Int) < mem 51 2 → mem 38 (mem 52 k).toNat = mem 8 (9 + (mem 52 k).toNat) := fun k hk => by
    have h1 := (i3 k hk).1
    have := (hR.2.2.1.2 (mem 52 k).toNat (by omega)).2.1
    rw [rl_xw9 _ (by omega)] at this
    exact this
  refine fm_X9_judge (am_cq (sp_firstWrong i1.1 i1.2 (fun k hk => by have := (i3 k hk).1; omega)) ?_)
  rintro z m ⟨rfl, hz⟩
  refine fm_X10_judge (fun n v1 mm => mm = m ∧ ∃ k : Nat, v1 = k ∧ (k : Int) ≤ m 51 2 ∧ (∀ j, j < k → m 38 (m 52 j).toNat = m 53 j) ∧ n = 20 - k) ⟨20, rfl, rfl, 0, rfl, i1.1, fun j hj => by omega, rfl⟩ ?_
  rintro n v1 mm ⟨rfl, k, rfl, hk, hv, rfl⟩
  have un : ∀ z', rl_fst (fun k => ¬ mm 38 (mm 52 k).toNat = mm 53 k) (mm 51 2).toNat z' → z' = z := fun z' h' => rl_fst_un (fun k _ => Iff.rfl) hz h'
  rw [i2]
  refine ⟨fun h => ⟨un _ (Or.inl ⟨rfl, fun j hj q => q (hv j (by omega))⟩), R1⟩, fun h => ?_⟩
  obtain ⟨g1, g2, g3⟩ := i3 k h
  have e1 : (2 * (k : Int)).toNat = 2 * k := by omega
  have e2 : (2 * (k : Int) + 1).toNat = 2 * k + 1 := by omega
  rw [e1, e2, ← g2, ← g3]
  have e3 : (9 + mm 52 k).toNat = 9 + (mm 52 k).toNat := by omega
  rw [e3, ← hc k h]
  refine ⟨by omega, by omega, by omega, by omega, by omega, by omega, by omega, fun h5 => ⟨by omega, 20 - (k + 1), by omega, rfl, rfl, k + 1, by omega, by omega, fun j hj => ?_, rfl⟩, fun h5 => ⟨un _ (Or.inr ⟨k, by omega, rfl, h5, fun j hj q => q (hv j hj)⟩), R1⟩⟩
  by_cases e : j = k
  · subst e; exact h5
  · exact hv j (by omega)
end OPB
