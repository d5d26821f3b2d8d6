section OT
variable {l : Launch} {g : am_G} {mem : am_Mem} {t : Int}
theorem op_trip (hR : rl_R t mem mem) : am_Mt l g 48 [.inr (.inl 17)] mem (rl_Q1 l g 106 [.inr (.inl 0)] t) := by
  have R1 := rl_R1 hR
  obtain ⟨a, b, c, d, e, f', i, j, k⟩ := id R1
  obtain ⟨j1, j2, j3⟩ := j
  obtain ⟨n, hn⟩ : ∃ n : Nat, mem 18 1 = n := ⟨(mem 18 1).toNat, by omega⟩
  have hTX : rl_TX (mem 19) n mem := ⟨hn, by omega, fun q hq => ⟨rfl, by rw [(j3 q (by omega)).1]; exact (j3 q (by omega)).2⟩⟩
  have hTM : ∀ X : am_Mem, X 0 0 = mem 0 0 → X 1 = mem 1 → rl_TM (mem 19) n X := fun X h0 h1 => ⟨by rw [h0]; omega, by omega, fun q hq => ⟨by rw [h1]; exact (j3 q (by omega)).1.symm, by rw [(j3 q (by omega)).1]; exact (j3 q (by omega)).2⟩⟩
  refine fm_X9_trip (am_cq (sp_readAll hTX) ?_)
  rintro z M ⟨fr, hc⟩
  rcases hc with ⟨st, h1, h2, h3, hD, hS⟩ | ⟨cc, aa, h1, h2, h3, h4⟩
  · refine ⟨fun _ => ?_, fun h => absurd h2 h⟩
    obtain ⟨s0, s4, s5, sz, sl, sc, sr⟩ := id hS
    refine am_cq (sp_copy hS (rl_DR_cg (fun q a1 a2 => by rw [am_up_k (by omega), am_up_k (by omega)]) hD)) ?_
    rintro z1 M1 ⟨f1, p0, p1, p2, p3, p4, p5, pc, pr⟩
    refine am_cq (sp_begin_n (by omega) (by omega)) ?_
    rintro z2 M2 ⟨g0, w0, w1, w2, w3, w4, wc⟩
    refine am_cl sp_dforget (am_cl sp_iforget ?_)
    generalize hX : am_up (am_up (am_up (am_up (am_up M2 40 2 0) 45 0 0) 45 1 0) 46 4 0) 51 2 0 = X
    have Xk : ∀ q, q ≠ 40 → q ≠ 45 → q ≠ 46 → q ≠ 51 → X q = M2 q := fun q a1 a2 a3 a4 => by rw [← hX, am_up_k a4, am_up_k a3, am_up_k a2, am_up_k a2, am_up_k a1]
    have Xz : X 40 1 = M2 40 1 ∧ X 40 2 = 0 ∧ X 45 0 = 0 ∧ X 45 1 = 0 ∧ X 46 4 = 0 ∧ X 51 2 = 0 := by rw [← hX]; exact ⟨rfl, rfl, rfl, rfl, rfl, rfl⟩
    clear hX
    have Xp : ∀ q, 29 ≤ q → q ≤ 35 → X q = M1 q := fun q a1 a2 => by rw [Xk q (by omega) (by omega) (by omega) (by omega), g0 q (by omega)]
    have Xo : ∀ q, ¬ (20 ≤ q ∧ q ≤ 39) → q ≠ 40 → q ≠ 45 → q ≠ 46 → q ≠ 51 → q ≠ 18 → q ≠ 17 → X q = mem q := fun q a0 a1 a2 a3 a4 a5 a6 => by rw [Xk q a1 a2 a3 a4, g0 q (by omega), f1 q (by omega), am_up_k a6, am_up_k a5, fr q (by omega)]
    have x29 := Xp 29 (by omega) (by omega)
    refine am_cl (sp_allMiles (mem := X) (by rw [x29]; omega) (by rw [x29]; omega) (fun r hr => ?_)) ?_
    · rw [x29, p5] at hr
      rw [Xp 33 (by omega) (by omega), (pr r (by omega)).1]
      have := (sr r (by omega)).1; omega
    refine mp_trip (hTM X (by rw [Xo 0 (by omega) (by omega) (by omega) (by omega) (by omega) (by omega) (by omega)]) (by rw [Xo 1 (by omega) (by omega) (by omega) (by omega) (by omega) (by omega) (by omega)])) (fun st' M' e1 hS' hQ z' m2 hq => ?_) (fun c' a' M' e1 => by rw [h1] at e1; exact absurd e1 (by simp))
    rw [h1] at e1
    have e2 := Sum.inl.inj e1
    subst e2
    obtain ⟨fr2, fj2, hc2⟩ := hQ
    have hDM : rl_DM st M' := by
      rcases hc2 with ⟨st2, e3, _, e4, _⟩ | ⟨_, _, e3, _⟩
      · rw [h1] at e3; have e5 := Sum.inl.inj e3; subst e5; exact e4
      · rw [h1] at e3; exact absurd e3 (by simp)
    obtain ⟨q1, q2, ⟨n24, n29, n31, n130, n131⟩, ⟨t5, t6, t7⟩, ⟨r0, rz, rc⟩, hz⟩ := hq
    have mk : ∀ q, 17 ≤ q → m2 q = X q := fun q hq => by
      rw [q1 q (by omega) (by omega) (by omega)]
      unfold rl_tA
      rw [am_up_k (by omega), am_up_k (by omega), am_up_k (by omega), am_up_k (by omega), am_up_k (by omega), fr2 q (by omega) (by omega)]
    have y29 : m2 29 = M1 29 := by rw [mk 29 (by omega), x29]
    have y30 : m2 30 = M1 30 := by rw [mk 30 (by omega), Xp 30 (by omega) (by omega)]
    have y31 : m2 31 = M1 31 := by rw [mk 31 (by omega), Xp 31 (by omega) (by omega)]
    have y32 : m2 32 = M1 32 := by rw [mk 32 (by omega), Xp 32 (by omega) (by omega)]
    have y33 : m2 33 = M1 33 := by rw [mk 33 (by omega), Xp 33 (by omega) (by omega)]
    have y34 : m2 34 = M1 34 := by rw [mk 34 (by omega), Xp 34 (by omega) (by omega)]
    have y35 : m2 35 = M1 35 := by rw [mk 35 (by omega), Xp 35 (by omega) (by omega)]
    have y36 : m2 36 = M2 36 := by rw [mk 36 (by omega), Xk 36 (by omega) (by omega) (by omega) (by omega)]
    have y37 : m2 37 = M2 37 := by rw [mk 37 (by omega), Xk 37 (by omega) (by omega) (by omega) (by omega)]
    have y38 : m2 38 = M2 38 := by rw [mk 38 (by omega), Xk 38 (by omega) (by omega) (by omega) (by omega)]
    have y39 : m2 39 = M2 39 := by rw [mk 39 (by omega), Xk 39 (by omega) (by omega) (by omega) (by omega)]
    have o15 : m2 0 15 = st 0 := by rw [q2 15 (by omega) (by omega) (by omega)]; exact hDM.1
    have o16 : m2 0 16 = st 4 := by rw [q2 16 (by omega) (by omega) (by omega)]; exact hDM.2.1
    have o17 : m2 0 17 = st 5 := by rw [q2 17 (by omega) (by omega) (by omega)]; exact hDM.2.2.1
    have o0 : m2 0 0 = 0 := by rw [q2 0 (by omega) (by omega) (by omega)]; rfl
    have o7 : m2 0 7 = -1 := by rw [q2 7 (by omega) (by omega) (by omega)]; rfl
    have o28 : m2 0 28 = mem 0 28 := by
      rw [q2 28 (by omega) (by omega) (by omega)]
      show M' 0 28 = _
      rw [fj2 28 (by omega), Xo 0 (by omega) (by omega) (by omega) (by omega) (by omega) (by omega) (by omega)]
    have x17 : X 17 9 = -1 ∧ X 17 10 = mem 17 10 := by
      rw [Xk 17 (by omega) (by omega) (by omega) (by omega), g0 17 (by omega), f1 17 (by omega)]
      refine ⟨h3, ?_⟩
      show M 17 10 = _
      rw [fr 17 (by omega)]
    have x18 : X 18 1 = 0 := by
      rw [Xk 18 (by omega) (by omega) (by omega) (by omega), g0 18 (by omega), f1 18 (by omega)]
      rfl
    have x40 : X 40 1 = mem 40 1 := by
      rw [Xz.1, g0 40 (by omega), f1 40 (by omega)]
      show M 40 1 = _
      rw [fr 40 (by omega)]
    have dd := d.1.1
    have c4 : M1 29 4 = st 4 := by omega
    have c5 : M1 29 5 = st 5 := by omega
    refine ⟨?_, ⟨⟨?_, ?_, ?_, ?_, ?_, ?_, ?_, ?_⟩, ?_⟩, ⟨?_, ?_, ?_, ?_, ?_, ?_, ?_⟩, ?_, ⟨?_, ?_, ?_⟩, ?_, ⟨⟨?_, ?_⟩, ?_, ?_⟩, ⟨?_, ?_, ?_⟩, ⟨?_, ?_, ?_⟩, ⟨?_, ?_, ?_⟩⟩
    · rw [hz, x29, c5]
      unfold rl_mam
      rw [o17]
      refine rl_sm_cg _ (fun r hr => ?_)
      rw [(t7 r (by omega)).1, Xp 33 (by omega) (by omega), (pr r (by omega)).1]
    · rw [y29, p0]; exact s0
    · rw [y29, p2]; exact sl.2.1
    · rw [y29, p3]; exact sl.2.2
    · rw [y29, c4]; exact s4
    · rw [y29, c5]; exact s5
    · intro q hq
      rw [y29, c4] at hq
      rw [y30, y31, y32, (pc q (by omega)).1, (pc q (by omega)).2.1, (pc q (by omega)).2.2]
      exact sc q hq
    · intro q hq
      rw [y29, c5] at hq
      rw [y33, y34, y35, (pr q (by omega)).1, (pr q (by omega)).2.1, (pr q (by omega)).2.2]
      exact sr q hq
    · rw [y29, p0, c4, c5]; exact fun h => ⟨(sz h).2.2.2.1, (sz h).2.2.2.2⟩
    · have ham : 0 ≤ rl_am m2 := by
        unfold rl_am
        refine (rl_sm_bd (K := 20) _ (fun r hr => ?_)).1
        rw [y29, c5] at hr
        rw [y33, (pr r (by omega)).1]
        have := (sr r (by omega)).1; omega
      have t0 : 0 ≤ t + 1 := by have := (rl_X_now a).2.2.2.1; omega
      rw [y29, c4]
      refine rl_rok_xw s4.2 (by rw [y36, w0, p1]; omega) (by rw [y36, w1]; omega) (by rw [y36, w1, w2]; omega) (by rw [y36, w3]; omega) (by rw [y36, w4]; exact Or.inl rfl) (fun q hq => ?_)
      obtain ⟨v1, v2, v3⟩ := wc q (by omega)
      rw [y37, y38, y39, y36, w1, v1, v2, v3, (pc q (by omega)).1, (pc q (by omega)).2.1]
      exact ⟨(sc q hq).1, (sc q hq).2.1, by omega⟩
    · rw [y29, p0, o15]
    · rw [y29, p2, t5 1 (by omega)]
    · rw [y29, p3, t5 2 (by omega)]
    · rw [y29, c4, o16]
    · rw [y29, c5, o17]
    · intro q hq
      rw [y29, c4] at hq
      rw [y31, y32, (pc q (by omega)).2.1, (pc q (by omega)).2.2, (t6 q hq).2.1, (t6 q hq).2.2]; exact ⟨rfl, rfl⟩
    · intro q hq
      rw [y29, c5] at hq
      rw [y33, y34, y35, (pr q (by omega)).1, (pr q (by omega)).2.1, (pr q (by omega)).2.2, (t7 q hq).1, (t7 q hq).2.1, (t7 q hq).2.2]; exact ⟨rfl, rfl, rfl⟩
    · rw [y29, c4]
      refine rl_eq_xw s4.2 (by rw [y36, w0, p1, r0]) (by rw [y36, w1, rz 1 (by omega) (by omega)]) (by rw [y36, w2, rz 2 (by omega) (by omega)]) (by rw [y36, w3, rz 3 (by omega) (by omega)]) (by rw [y36, w4, rz 4 (by omega) (by omega)]) (fun q hq => ?_)
      obtain ⟨v1, v2, v3⟩ := wc q (by omega)
      rw [y37, y38, y39, v1, v2, v3, (pc q (by omega)).1, (pc q (by omega)).2.1, (rc q hq).1, (rc q hq).2.1, (rc q hq).2.2]; exact ⟨rfl, rfl, rfl⟩
    · unfold rl_deedok; rw [mk 40 (by omega), x40, Xz.2.1]; omega
    · rw [mk 40 (by omega), Xz.2.1, n24]
    · intro q hq
      rw [mk 40 (by omega), Xz.2.1] at hq; omega
    · intro q hq
      have : q = 0 ∨ q = 1 := by omega
      rcases this with rfl | rfl
      · rw [mk 45 (by omega), Xz.2.2.1, n130]; exact ⟨rfl, Or.inl rfl, fun h => absurd h (by decide)⟩
      · rw [mk 45 (by omega), Xz.2.2.2.1, n131]; exact ⟨rfl, Or.inl rfl, fun h => absurd h (by decide)⟩
    · rw [mk 46 (by omega), Xz.2.2.2.2.1]; omega
    · intro q hq
      rw [mk 46 (by omega), Xz.2.2.2.2.1] at hq; omega
    · rw [mk 46 (by omega), Xz.2.2.2.2.1, n29]
    · intro q hq
      rw [mk 46 (by omega), Xz.2.2.2.2.1] at hq; omega
    · rw [mk 51 (by omega), Xz.2.2.2.2.2]; omega
    · rw [mk 51 (by omega), Xz.2.2.2.2.2, n31]
    · intro q hq
      rw [mk 51 (by omega), Xz.2.2.2.2.2] at hq; omega
    · rw [mk 18 (by omega), x18]; omega
    · rw [mk 18 (by omega), x18, o0]
    · intro q hq
      rw [mk 18 (by omega), x18] at hq; omega
    · rw [mk 17 (by omega), x17.1, o7]
    · rw [mk 17 (by omega), x17.2, o28]; exact k.2.1
    · rw [o28]; exact k.2.2
  · refine ⟨fun h => by omega, fun _ => ⟨by omega, ?_⟩⟩
    rw [h3, h4]
    refine mp_trip (hTM _ (by show M 0 0 = _; rw [fr 0 (by omega)]) (by show M 1 = _; rw [fr 1 (by omega)])) (fun st' M' e1 => by rw [h1] at e1; exact absurd e1 (by simp)) (fun c' a' M' e1 hQ e2 e3 => ?_)
    rw [h1] at e1
    have e4 := Sum.inr.inj e1
    have e5 : cc = c' := congrArg Prod.fst e4
    have e6 : aa = a' := congrArg Prod.snd e4
    subst e5
    subst e6
    obtain ⟨fr2, fj2, -⟩ := hQ
    rw [e3]
    refine ⟨by omega, rfl, ?_⟩
    have hY : rl_R (t + 1) (am_up (am_up (am_up (am_up mem 18 1 0) 17 9 aa) 0 0 0) 0 7 aa) (am_up (am_up (am_up (am_up mem 18 1 0) 17 9 aa) 0 0 0) 0 7 aa) :=
      ⟨a, b, c, d, e, f', i, ⟨by show (0 : Int) ≤ 0 ∧ (0 : Int) ≤ 200; omega, rfl, fun q hq => absurd hq (by show ¬ (q : Int) < 0; omega)⟩, rfl, k.2.1, k.2.2⟩
    refine rl_R_fr hY (fun q a1 a2 a3 => ?_) (fun q a1 a2 a3 a4 a5 a6 => ?_) (fun q hq => ?_)
    · rw [am_up_k (by omega), fr2 q (by omega) (by omega)]
      funext w
      rw [am_up_ne (k := q) (a := 0) (by omega), am_up_ne (k := q) (a := 0) (by omega)]
      simp only [am_up, fr q a3]
    · rw [am_up_k (by omega), fr2 q (by omega) (by omega), am_up_k (by omega), am_up_k (by omega), fr q (by omega), am_up_k (by omega), am_up_k (by omega), am_up_k (by omega), am_up_k (by omega)]
    · by_cases q7 : q = 7
      · subst q7; show M' 0 7 = (aa : Int); exact e2
      · by_cases q0 : q = 0
        · subst q0; rfl
        · rw [am_up_ni q0, fj2 q (by omega), am_up_ni q7, am_up_ni q0]
          show M 0 q = mem 0 q
          rw [fr 0 (by omega)]
end OT
