section OT
variable {l : Launch} {g : am_G} {mem : am_Mem} {t : Int}
theorem op_trip (hR : rl_R t mem mem) : am_Mt l g 48 [.inr (.inl 17)] mem (rl_Q1 l g 106 [.inr (.inl 0)] t) := by
  have R1 := rl_R1 hR
  obtain ⟨a, b, c, d, e, f', i, j, k⟩ := id R1
  obtain ⟨j1, j2, j3⟩ := j
  obtain ⟨n, hn⟩ : ∃ n : Nat, mem 18 1 = n := ⟨(mem 18 1).toNat, by omega⟩
  have hTX : rl_TX (mem 19) n mem := ⟨hn, by omega, fun q hq => ⟨rfl, by rw [(j3 q (by omega)).1]; exact (j3 q (by omega)).2⟩⟩
  have hTM : ∀ X : am_Mem, X 0 0 = mem 0 0 → X 1 = mem 1 → rl_TM (mem 19) n X := fun X h0 h1 => ⟨by rw [h0]; omega, by omega, fun q hq => ⟨by rw [h1]; exact (j3 q (by omega)).1.symm, by rw [(j3 q (by omega)).1]; exact (j3 q (by omega)).2⟩⟩
  refine fm_X9_trip (am_cq (sp_readAll hTX) ?_)
  rintro z M ⟨fr, hc⟩
  rcases hc with ⟨st, h1, h2, h3, hD, hS⟩ | ⟨cc, aa, h1, h2, h3, h4⟩
  · refine ⟨fun _ => ?_, fun h => absurd h2 h⟩
    sorry
  · refine ⟨fun h => by omega, fun _ => ⟨by omega, ?_⟩⟩
    rw [h3, h4]
    refine mp_trip (hTM _ (by show M 0 0 = _; rw [fr 0 (by omega)]) (by show M 1 = _; rw [fr 1 (by omega)])) (fun st' M' e1 => by rw [h1] at e1; exact absurd e1 (by simp)) (fun c' a' M' e1 hQ e2 e3 => ?_)
    rw [h1] at e1
    have e4 := Sum.inr.inj e1
    have e5 : cc = c' := congrArg Prod.fst e4
    have e6 : aa = a' := congrArg Prod.snd e4
    subst e5
    subst e6
    obtain ⟨fr2, fj2, -⟩ := hQ
    rw [e3]
    refine ⟨by omega, rfl, ?_⟩
    have hY : rl_R (t + 1) (am_up (am_up (am_up (am_up mem 18 1 0) 17 9 aa) 0 0 0) 0 7 aa) (am_up (am_up (am_up (am_up mem 18 1 0) 17 9 aa) 0 0 0) 0 7 aa) :=
      ⟨a, b, c, d, e, f', i, ⟨by show (0 : Int) ≤ 0 ∧ (0 : Int) ≤ 200; omega, rfl, fun q hq => absurd hq (by show ¬ (q : Int) < 0; omega)⟩, rfl, k.2.1, k.2.2⟩
    refine rl_R_fr hY (fun q a1 a2 a3 => ?_) (fun q a1 a2 a3 a4 a5 a6 => ?_) (fun q hq => ?_)
    · rw [am_up_k (by omega), fr2 q (by omega) (by omega)]
      funext w
      rw [am_up_ne (k := q) (a := 0) (by omega), am_up_ne (k := q) (a := 0) (by omega)]
      simp only [am_up, fr q a3]
    · rw [am_up_k (by omega), fr2 q (by omega) (by omega), am_up_k (by omega), am_up_k (by omega), fr q (by omega), am_up_k (by omega), am_up_k (by omega), am_up_k (by omega), am_up_k (by omega)]
    · by_cases q7 : q = 7
      · subst q7; show M' 0 7 = (aa : Int); exact e2
      · by_cases q0 : q = 0
        · subst q0; rfl
        · rw [am_up_ni q0, fj2 q (by omega), am_up_ni q7, am_up_ni q0]
          show M 0 q = mem 0 q
          rw [fr 0 (by omega)]
end OT
