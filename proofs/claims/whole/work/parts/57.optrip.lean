section OT
variable {l : Launch} {g : am_G} {mem : am_Mem} {t : Int}
theorem op_trip (hR : rl_R t mem mem) : am_Mt l g 48 [.inr (.inl 17)] mem (rl_Q1 l g 106 [.inr (.inl 0)] t) := by
  have R1 := rl_R1 hR
  obtain ⟨a, b, c, d, e, f', i, j, k⟩ := id R1
  obtain ⟨j1, j2, j3⟩ := j
  obtain ⟨n, hn⟩ : ∃ n : Nat, mem 18 1 = n := ⟨(mem 18 1).toNat, by omega⟩
  have hTX : rl_TX (mem 19) n mem := ⟨hn, by omega, fun q hq => ⟨rfl, by rw [(j3 q (by omega)).1]; exact (j3 q (by omega)).2⟩⟩
  have hTM : ∀ X : am_Mem, X 0 0 = mem 0 0 → X 1 = mem 1 → rl_TM (mem 19) n X := fun X h0 h1 => ⟨by rw [h0]; omega, by omega, fun q hq => ⟨by rw [h1]; exact (j3 q (by omega)).1.symm, by rw [(j3 q (by omega)).1]; exact (j3 q (by omega)).2⟩⟩
  refine fm_X9_trip (am_cq (sp_readAll hTX) ?_)
  rintro z M ⟨fr, hc⟩
  rcases hc with ⟨st, h1, h2, h3, hD, hS⟩ | ⟨cc, aa, h1, h2, h3, h4⟩
  · refine ⟨fun _ => ?_, fun h => absurd h2 h⟩
    sorry
  · refine ⟨fun h => by omega, fun _ => ⟨by omega, ?_⟩⟩
    rw [h3, h4]
    refine mp_trip (hTM _ (by show M 0 0 = _; rw [fr 0 (by omega)]) (by show M 1 = _; rw [fr 1 (by omega)])) (fun st' M' e1 => by rw [h1] at e1; exact absurd e1 (by simp)) (fun c' a' M' e1 hQ e2 e3 => ?_)
    rw [h1] at e1
    have e4 := Sum.inr.inj e1
    have e5 : cc = c' := congrArg Prod.fst e4
    have e6 : aa = a' := congrArg Prod.snd e4
    subst e5
    subst e6
    obtain ⟨fr2, fj2, -⟩ := hQ
    rw [e3]
    refine ⟨by omega, rfl, ?_⟩
    have x1 : ∀ q, 17 ≤ q → q < 54 → ¬ (20 ≤ q ∧ q ≤ 28) → q ≠ 18 → q ≠ 17 → am_up M' 0 0 0 q = mem q := fun q a1 a2 a3 a4 a5 => by
      rw [am_up_k (by omega), fr2 q (by omega) (by omega), am_up_k a5, am_up_k a4, fr q a3]
    sorry
end OT
