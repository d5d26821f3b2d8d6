section OPG
variable {l : Launch} {g : am_G} {mem : am_Mem} {t : Int}
/-- drawn on both sides -/
theorem rl_R_draw {x m : am_Mem} (hR : rl_R t x m) : rl_R t (am_up x 17 10 (rl_dr (x 17 10))) (am_up m 0 28 (rl_dr (m 0 28))) := by
  obtain ⟨a, b, c, d, e, f, i, j, k⟩ := hR
  refine ⟨a, b, c, d, e, f, i, j, k.1, ?_, rl_dr_bd _⟩
  show rl_dr (x 17 10) = rl_dr (m 0 28)
  rw [k.2.1]
theorem rl_push_up {x : am_Mem} {v : Int} : am_up (rl_push x) 17 10 v = rl_push (am_up x 17 10 v) := by
  funext k i
  simp only [rl_push, rl_sv, rl_xw, am_up, am_st]
  grind
/-- the road of a mile, on both sides -/
theorem rl_R_ro {x m : am_Mem} (hR : rl_R t x m) (hd : x 36 1 < rl_am x) : rl_mro_n m = rl_ro x ∧ m 7 (3 * rl_ro x + 1) = x 34 (rl_ro x) ∧ m 7 (3 * rl_ro x + 2) = x 35 (rl_ro x) := by
  have h5 := hR.1.1.2.2.2.2.1
  obtain ⟨b0, b2, b3, b4, b5, bc, br⟩ := hR.2.1
  have c1 : x 36 1 = m 8 1 := hR.2.2.1.1 1 (by omega)
  have hin := (rl_ro_in hR.1 hd).2
  refine ⟨?_, (br _ hin).2.1.symm, (br _ hin).2.2.symm⟩
  unfold rl_mro_n rl_ro rl_rd
  rw [← b5, ← c1]
  congr 1
  refine rl_rd_cg _ _ _ (fun r hr => ?_)
  exact ((br r (by omega)).1).symm
/-- a mile on both sides -/
theorem rl_R_mile {x m x' m' : am_Mem} {pa mo z z' : Int} (hR : rl_R t x m) (hd : x 36 1 < rl_am x) (hp : 10 ≤ pa) (hp' : pa ≤ 70) (h1 : rl_Qm x pa mo z x') (h2 : rl_Qg_n m pa mo z' m') : z' = z ∧ ((z = 1 ∧ rl_R t x' m' ∧ rl_am x' = rl_am x ∧ x' 36 1 = x 36 1 + 1 ∧ x' 36 4 = x 36 4 ∧ x' 29 = x 29) ∨ (z = 0 ∧ rl_R (t + 1) x' m' ∧ x' 36 4 = 1)) ∧ ∀ k, k ≠ 8 → m' k = m k := by
  obtain ⟨o1, o2, o3⟩ := rl_R_ro hR hd
  have hob := rl_ow_bd hR.1 hd hp hp'
  have eow : rl_mow_n m pa = min pa (x 34 (rl_ro x)) := by unfold rl_mow_n; rw [o1, o2]
  have eP : rl_mh_n m 0 (rl_mow_n m pa + (m 7 (3 * rl_mro_n m + 2) + mo)) ↔ rl_hn x (min pa (x 34 (rl_ro x)) + (x 35 (rl_ro x) + mo)) := by
    rw [eow, o1, o3]; exact rl_R_mh hR
  have h4 := hR.1.1.2.2.2.1
  obtain ⟨b0, b2, b3, b4, b5, bc, br⟩ := hR.2.1
  have he := hR.2.2.1
  have c0 : x 36 0 = m 8 0 := he.1 0 (by omega)
  have c1 : x 36 1 = m 8 1 := he.1 1 (by omega)
  have c2 : x 36 2 = m 8 2 := he.1 2 (by omega)
  have c3 : x 36 3 = m 8 3 := he.1 3 (by omega)
  have c4 : x 36 4 = m 8 4 := he.1 4 (by omega)
  have cc : ∀ c : Nat, (c : Int) < x 29 4 → x 37 c = m 8 (5 + c) ∧ x 38 c = m 8 (9 + c) ∧ x 39 c = m 8 (13 + c) := fun c hc => by
    have := he.2 c hc
    rw [rl_xw5 _ (by omega), rl_xw9 _ (by omega), rl_xw13 _ (by omega)] at this
    exact this
  rcases h1 with ⟨p1, rfl, rfl⟩ | ⟨p1, rfl, rfl⟩
  · rcases h2 with ⟨q1, rfl, rfl⟩ | ⟨q1, rfl, rfl⟩
    · refine ⟨rfl, Or.inl ⟨rfl, ?_, rfl, rfl, rfl, rfl⟩, fun k hk => am_st_ne hk⟩
      rw [eow, ← b4]
      generalize hown : min pa (x 34 (rl_ro x)) = own at *
      refine rl_R_now' (by omega) hR (rl_X_drv hR.1 hd hob.1 hob.2) (fun k a1 a2 a3 a4 => ?_) (fun k _ a1 a2 => am_st_ne a2) (rl_eq_xw h4.2 ?_ ?_ ?_ ?_ ?_ (fun c hc => ?_))
      · unfold rl_drv rl_slk
        rw [am_st_ne (by omega), am_st_ne (by omega), am_up_k (by omega), am_up_k (by omega)]
      · exact c0
      · show x 36 1 + 1 = m 8 1 + 1; rw [c1]
      · show x 36 2 + 3600 / own = m 8 2 + 3600 / own; rw [c2]
      · exact c3
      · exact c4
      · obtain ⟨g1, g2, g3⟩ := cc c hc
        rw [am_st_at]
        unfold rw_drv rw_slk
        refine ⟨?_, ?_, ?_⟩
        · rw [if_neg (by omega), if_neg (by omega), if_neg (by omega), if_neg (by omega)]; exact g1
        · rw [if_neg (by omega), if_neg (by omega), if_pos (by omega), show 9 + c + 4 = 13 + c by omega, show 9 + c - 9 = c by omega, ← g2, ← g3]
          show (if c < (x 29 4).toNat then rl_tb 1 (x 38 c) (x 39 c) (x 32 c) else _) = rl_tb 1 _ _ (m 6 (3 * c + 2))
          rw [if_pos (by omega), (bc c hc).2]
        · rw [if_neg (by omega), if_neg (by omega), if_neg (by omega), if_pos (by omega), ← g3]
          show (if c < (x 29 4).toNat then x 39 c + 1 else _) = _
          rw [if_pos (by omega)]
    · exact absurd (eP.mpr p1) q1
  · rcases h2 with ⟨q1, rfl, rfl⟩ | ⟨q1, rfl, rfl⟩
    · exact absurd (eP.mp q1) p1
    · refine ⟨rfl, Or.inr ⟨rfl, ?_, rfl⟩, fun k hk => am_st_ne hk⟩
      refine rl_R_now' (by omega) hR (rl_X_lost hR.1) (fun k a1 a2 a3 a4 => ?_) (fun k _ a1 a2 => am_st_ne a2) (rl_eq_xw h4.2 c0 c1 c2 ?_ rfl (fun c hc => ?_))
      · unfold rl_lost; rw [am_up_k (by omega), am_up_k (by omega)]
      · show x 36 3 + 1 = m 8 3 + 1; rw [c3]
      · rw [am_st_at]
        unfold rw_lost
        rw [if_neg (by omega), if_neg (by omega), if_neg (by omega), if_neg (by omega), if_neg (by omega), if_neg (by omega)]
        exact cc c hc
/-- the reference goes the same miles -/
def rl_JG (t n pa dr z : Int) (m : am_Mem) : Nat → Int → Int → Int → Int → Int → am_Mem → Prop := fun k v1 v2 v3 v4 v5 mm => v1 = n ∧ v2 = pa ∧ v3 = dr ∧ (0 ≤ v5 ∧ v5 ≤ n) ∧ (0 ≤ v4 ∧ v4 ≤ v5) ∧ (∀ k, 17 ≤ k → mm k = m k) ∧ ((∃ x r, rl_R t x mm ∧ x 36 4 = 0 ∧ ¬ x 29 0 = 0 ∧ r = (min (n - v5) (rl_am x - x 36 1)).toNat ∧ rl_go pa dr r x (z - v4) m) ∨ (∃ x, rl_R (t + 1) x mm ∧ x = m ∧ x 36 4 = 1 ∧ z = v4)) ∧ k = (n - v5).toNat
theorem mp_goMiles {n pa dr z : Int} {m : am_Mem} (hR : rl_R t mem mem) (ht : t ≤ 900) (hlo : ∀ k, k < 17 → m k = mem k) (hq : rl_Qv mem n pa dr z m) : am_Mt l g 122 [.inr (.inl 0), .inl n, .inl pa, .inl dr] m (rl_Q2 t z) := by
  have R1 := rl_R1 hR
  unfold rl_Qv at hq
  by_cases h1 : 1 ≤ n ∧ n ≤ 30
  · by_cases h2 : 10 ≤ pa ∧ pa ≤ 70
    · rw [if_pos ⟨h1.1, h1.2, h2.1, h2.2⟩] at hq
      by_cases h3 : ¬ mem 29 0 = 0 ∧ mem 36 4 = 0 ∧ mem 36 1 < rl_am mem
      · rw [if_pos h3] at hq
        have hR' : rl_R t mem m := rl_R_fr hR (fun k _ _ _ => rfl) (fun k h1 h2 _ _ _ _ => hlo k (by omega)) (fun j _ => by rw [hlo 0 (by omega)])
        have hrk := rl_R_rok hR'
        have ham := rl_R_am hR'
        have hab := rl_am_bd hR.1.1
        have c1 : mem 36 1 = m 8 1 := hR'.2.2.1.1 1 (by omega)
        have c4 : mem 36 4 = m 8 4 := hR'.2.2.1.1 4 (by omega)
        have b0 := hR'.2.1.1
        have hrk1 := hrk.2.1
        refine fm_X10_goMiles (rl_JG t n pa dr z m) (am_cbe (mp_in n 1 30) (fun _ => am_cbn (mp_in pa 10 70) (fun _ => am_cbn (mp_canGo (rl_R_MP hR') hrk1.1 (by omega)) (fun _ => ⟨_, rfl, rfl, rfl, rfl, by omega, by omega, fun _ _ => rfl, Or.inl ⟨mem, _, hR', h3.2.1, h3.1, rfl, ?_⟩, rfl⟩) (fun h => absurd ⟨by omega, by omega, by omega⟩ h)) (fun h => absurd h2 h)) (fun h => absurd h1 h)) ?_
        · rw [Int.sub_zero, Int.sub_zero]; exact hq
        · rintro k v1 v2 v3 v4 v5 mm ⟨rfl, rfl, rfl, h5, h6, h7, h8, rfl⟩
          rcases h8 with ⟨x, r, hx, x4, x0, hr, hgo⟩ | ⟨x, hx, hxm, x4, hz⟩
          · have hP := rl_R_MP hx
            have hrk := rl_R_rok hx
            have ham := rl_R_am hx
            have hab := rl_am_bd hx.1.1
            have c1 : x 36 1 = mm 8 1 := hx.2.2.1.1 1 (by omega)
            have c4 : x 36 4 = mm 8 4 := hx.2.2.1.1 4 (by omega)
            have b0 := hx.2.1.1
            have hrk1 := hrk.2.1
            obtain ⟨⟨⟨d1, d1'⟩, d2, d2'⟩, d3, d4⟩ := hx.2.2.2.1
            have kk := hx.2.2.2.2.2.2.2.2
            have fin0 : r = 0 → rl_Q2 t z v4 mm := fun hr0 => by
              rw [hr0] at hgo
              obtain ⟨g1, g2⟩ := hgo
              subst g2
              exact ⟨by omega, rl_R_fr (rl_R_t (by omega) hx) (fun k a1 a2 a3 => h7 k a1) (fun k _ _ _ _ _ _ => rfl) (fun j _ => rfl)⟩
            refine ⟨fun h => fin0 (by omega), fun h => am_cbe (mp_canGo hP hrk1.1 (by omega)) (fun hc => ?_) (fun hc => fin0 ?_)⟩
            · obtain ⟨r', rfl⟩ : ∃ r', r = r' + 1 := ⟨r - 1, by omega⟩
              have hdx : x 36 1 < rl_am x := by omega
              -- one step of the reference against one step of the class
              have step : ∀ (N : am_Mem) (mo : Int), rl_R t (rl_m1 x v3) N → mo = rl_mo x v3 → (∀ k, 17 ≤ k → N k = mm k) → ∃ q : am_Po, am_Mt l g 120 [.inr (.inl 0), .inr (.inl 8), .inl v2, .inl mo] N q ∧ ∀ (z17 : Int) (m18 : am_Mem), q z17 m18 → ((z17 = 0 → ((-2147483648 ≤ v4 + 0 ∧ v4 + 0 ≤ 2147483647) ∧ ((-2147483648 ≤ v5 + 1 ∧ v5 + 1 ≤ 2147483647) ∧ (∃ n' : Nat, n' < (v1 - v5).toNat ∧ (0 : Nat) = 0 ∧ rl_JG t v1 v2 v3 z m n' v1 v2 v3 (v4 + 0) (v5 + 1) m18)))) ∧ (¬ z17 = 0 → ((-2147483648 ≤ v4 + 1 ∧ v4 + 1 ≤ 2147483647) ∧ ((-2147483648 ≤ v5 + 1 ∧ v5 + 1 ≤ 2147483647) ∧ (∃ n' : Nat, n' < (v1 - v5).toNat ∧ (0 : Nat) = 0 ∧ rl_JG t v1 v2 v3 z m n' v1 v2 v3 (v4 + 1) (v5 + 1) m18))))) := by
                intro N mo hRN hmo hN7
                subst hmo
                have hm1 := rl_m1_am (mem := x) (dr := v3)
                have hd1 : rl_m1 x v3 36 1 < rl_am (rl_m1 x v3) := by rw [hm1.1, hm1.2]; exact hdx
                have hrkN := rl_R_rok hRN
                have hamN := rl_R_am hRN
                have cN : rl_m1 x v3 36 1 = N 8 1 := hRN.2.2.1.1 1 (by omega)
                have hmo := rl_mo_bd (mem := x) (dr := v3)
                refine am_cq (mp_goOn_n (rl_R_MP hRN) hrkN (by omega) (by omega) h2.1 h2.2 hmo.1 hmo.2) (fun z17 m18 hq => ?_)
                rcases hgo with ⟨m1, g1, g2⟩ | ⟨g1, g2⟩
                · obtain ⟨e1, e2, e3⟩ := rl_R_mile hRN hd1 h2.1 h2.2 g1 hq
                  subst e1
                  rcases e2 with ⟨_, f1, f2, f3, f4, f5⟩ | ⟨f1, _⟩
                  · refine ⟨fun h => absurd h (by decide), fun _ => ⟨by omega, by omega, (v1 - (v5 + 1)).toNat, by omega, rfl, rfl, rfl, rfl, by omega, by omega, fun k hk => ?_, Or.inl ⟨m1, r', f1, ?_, ?_, ?_, ?_⟩, rfl⟩⟩
                    · rw [e3 k (by omega), hN7 k hk, h7 k hk]
                    · rw [f4, hm1.2]; exact x4
                    · rw [f5]; unfold rl_m1; split <;> exact x0
                    · rw [f2, f3, hm1.1, hm1.2]; omega
                    · rw [show z - (v4 + 1) = z - v4 - 1 by omega]; exact g2
                  · exact absurd f1 (by decide)
                · obtain ⟨e1, e2, e3⟩ := rl_R_mile hRN hd1 h2.1 h2.2 g1 hq
                  subst e1
                  rcases e2 with ⟨f1, _⟩ | ⟨_, f1, f2⟩
                  · exact absurd f1 (by decide)
                  · refine ⟨fun _ => ⟨by omega, by omega, (v1 - (v5 + 1)).toNat, by omega, rfl, rfl, rfl, rfl, by omega, by omega, fun k hk => ?_, Or.inr ⟨m, f1, rfl, f2, by omega⟩, rfl⟩, fun h => absurd rfl h⟩
                    rw [e3 k (by omega), hN7 k hk, h7 k hk]
              refine ⟨fun h30 => am_cl (mp_note (by omega) (by omega)) (step _ 0 ?_ ?_ (fun k hk => rl_note_c (by omega) (by omega))), fun h30 => am_cl (mp_draw kk.2.2.1 kk.2.2.2) (am_cl (mp_note ?_ ?_) (step _ _ ?_ ?_ (fun k hk => ?_)))⟩
              · unfold rl_m1; rw [if_pos h30]; exact rl_R_push hx
              · unfold rl_mo; rw [if_pos h30]
              · show 0 ≤ mm 0 24; omega
              · show mm 0 24 ≤ 30; omega
              · unfold rl_m1; rw [if_neg h30, rl_push_up]; exact rl_R_push (rl_R_draw hx)
              · unfold rl_mo; rw [if_neg h30, kk.2.1]
              · rw [rl_note_c (by omega) (by omega), am_up_k (by omega)]
            · refine Nat.eq_zero_of_not_pos (fun hr0 => hc ⟨by omega, by omega, by omega⟩)
          · have hP := rl_R_MP hx
            have hrk := rl_R_rok hx
            have ham := rl_R_am hx
            have hab := rl_am_bd hx.1.1
            have c4 : x 36 4 = mm 8 4 := hx.2.2.1.1 4 (by omega)
            have hrk1 := hrk.2.1
            have fin0 : rl_Q2 t z v4 mm := by
              subst hxm
              exact ⟨by omega, rl_R_fr hx (fun k a1 a2 a3 => h7 k a1) (fun k _ _ _ _ _ _ => rfl) (fun j _ => rfl)⟩
            exact ⟨fun _ => fin0, fun _ => am_cbe (mp_canGo hP hrk1.1 (by omega)) (fun hc => by have := hc.2.1; omega) (fun _ => fin0)⟩
      · rw [if_neg h3] at hq
        obtain ⟨rfl, rfl⟩ := hq
        have hrk := rl_R_rok hR
        have ham := rl_R_am hR
        have hab := rl_am_bd hR.1.1
        have c1 : m 36 1 = m 8 1 := hR.2.2.1.1 1 (by omega)
        have c4 : m 36 4 = m 8 4 := hR.2.2.1.1 4 (by omega)
        have b0 := hR.2.1.1
        have hrk1 := hrk.2.1
        exact fm_X10_goMiles (fun _ _ _ _ _ _ _ => False) (am_cbe (mp_in n 1 30) (fun _ => am_cbn (mp_in pa 10 70) (fun _ => am_cbn (mp_canGo (rl_R_MP hR) hrk1.1 (by omega)) (fun h => absurd ⟨by omega, by omega, by omega⟩ h3) (fun _ => ⟨rfl, R1⟩)) (fun h => absurd h2 h)) (fun h => absurd h1 h)) (fun _ _ _ _ _ _ _ h => h.elim)
    · rw [if_neg (fun q => h2 ⟨q.2.2.1, q.2.2.2⟩)] at hq
      obtain ⟨rfl, rfl⟩ := hq
      exact fm_X10_goMiles (fun _ _ _ _ _ _ _ => False) (am_cbe (mp_in n 1 30) (fun _ => am_cbn (mp_in pa 10 70) (fun h => absurd h h2) (fun _ => ⟨rfl, R1⟩)) (fun h => absurd h1 h)) (fun _ _ _ _ _ _ _ h => h.elim)
  · rw [if_neg (fun q => h1 ⟨q.1, q.2.1⟩)] at hq
    obtain ⟨rfl, rfl⟩ := hq
    exact fm_X10_goMiles (fun _ _ _ _ _ _ _ => False) (am_cbe (mp_in n 1 30) (fun h => absurd h h1) (fun _ => ⟨rfl, R1⟩)) (fun _ _ _ _ _ _ _ h => h.elim)
/-- the class's miles leave the reference's cells alone -/
theorem rl_go_lo {pa dr : Int} : ∀ (r : Nat) (x : am_Mem) (z : Int) (m : am_Mem), rl_go pa dr r x z m → ∀ k, k < 17 → m k = x k
  | 0, x, z, m, h, k, hk => by rw [h.2]
  | r + 1, x, z, m, h, k, hk => by
    have e1 : rl_m1 x dr k = x k := by
      unfold rl_m1; split
      · exact rl_push_k (by omega) (by omega)
      · rw [am_up_k (by omega)]; exact rl_push_k (by omega) (by omega)
    have e2 : ∀ w m1, rl_Qm (rl_m1 x dr) pa (rl_mo x dr) w m1 → m1 k = x k := fun w m1 hq => by
      rcases hq with ⟨_, _, rfl⟩ | ⟨_, _, rfl⟩
      · unfold rl_drv rl_slk
        rw [am_st_ne (by omega), am_st_ne (by omega), am_up_k (by omega), am_up_k (by omega), e1]
      · unfold rl_lost
        rw [am_up_k (by omega), am_up_k (by omega), e1]
    rcases h with ⟨m1, g1, g2⟩ | ⟨g1, g2⟩
    · rw [rl_go_lo r m1 _ m g2 k hk, e2 _ _ g1]
    · exact e2 _ _ g1
theorem rl_Qv_lo {n pa dr z : Int} {m : am_Mem} (hq : rl_Qv mem n pa dr z m) : ∀ k, k < 17 → m k = mem k := by
  unfold rl_Qv at hq
  split at hq
  · split at hq
    · exact rl_go_lo _ _ _ _ hq
    · intro k _; rw [hq.2]
  · intro k _; rw [hq.2]
theorem op_drive {n p : Int} (hR : rl_R t mem mem) (ht : t ≤ 900) : am_Mt l g 54 [.inr (.inl 17), .inl n, .inl p] mem (rl_Q1 l g 123 [.inr (.inl 0), .inl n, .inl p] t) := by
  have d := hR.2.2.2.1.1
  obtain ⟨k1, k2, k3, k4⟩ := hR.2.2.2.2.2.2.2.2
  refine fm_X9_drive (am_cq (sp_travel_go hR.1 d ⟨by omega, by omega⟩ ht (Or.inl rfl)) (fun z m hq => fm_X10_drive (am_cq (mp_goMiles hR ht (rl_Qv_lo hq) hq) (fun z m h => h))))
theorem op_drift {n p : Int} (hR : rl_R t mem mem) (ht : t ≤ 900) : am_Mt l g 59 [.inr (.inl 17), .inl n, .inl p] mem (rl_Q1 l g 129 [.inr (.inl 0), .inl n, .inl p] t) := by
  have d := hR.2.2.2.1.1
  obtain ⟨k1, k2, k3, k4⟩ := hR.2.2.2.2.2.2.2.2
  refine fm_X9_drift (am_cq (sp_travel_go hR.1 d ⟨by omega, by omega⟩ ht (Or.inr rfl)) (fun z m hq => fm_X10_drift (am_cq (mp_goMiles hR ht (rl_Qv_lo hq) hq) (fun z m h => h))))
end OPG
