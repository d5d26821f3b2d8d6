section OPE
variable {l : Launch} {g : am_G} {mem : am_Mem} {t : Int}
theorem rl_xw_ld {m : am_Mem} {f : Nat → Int} {k : Nat} (hk : k < 17) : rl_xw (rl_ld m f) k = f k := by
  unfold rl_xw
  by_cases h5 : k < 5
  · rw [if_pos h5]; show (if k < 5 then f k else _) = _; rw [if_pos h5]
  · rw [if_neg h5]
    by_cases h9 : k < 9
    · rw [if_pos h9]; show (if k - 5 < 4 then f (5 + (k - 5)) else _) = _; rw [if_pos (by omega), show 5 + (k - 5) = k by omega]
    · rw [if_neg h9]
      by_cases h13 : k < 13
      · rw [if_pos h13]; show (if k - 9 < 4 then f (9 + (k - 9)) else _) = _; rw [if_pos (by omega), show 9 + (k - 9) = k by omega]
      · rw [if_neg h13]; show (if k - 13 < 4 then f (13 + (k - 13)) else _) = _; rw [if_pos (by omega), show 13 + (k - 13) = k by omega]
theorem op_undo {n : Int} (hR : rl_R t mem mem) : am_Mt l g 60 [.inr (.inl 17), .inl n] mem (rl_Q1 l g 130 [.inr (.inl 0), .inl n] t) := by
  have R1 := rl_R1 hR
  obtain ⟨a, b, c, d, e, f, i, j, k⟩ := R1
  obtain ⟨⟨⟨d1, d1'⟩, d2, d2'⟩, d3, d4⟩ := d
  have p4 := a.1.2.2.2.1
  refine fm_X9_undo (am_cbn (sp_within n 1 30) (fun h1 => ⟨fun h2 => am_cl (sp_pop d1 d1' d2' h1.1 h2) ?_, fun h2 => ?_⟩) (fun h1 => ?_))
  · obtain ⟨q, hq⟩ : ∃ q : Nat, (q : Int) = mem 40 2 - n := ⟨(mem 40 2 - n).toNat, by omega⟩
    obtain ⟨r1, r2⟩ := d4 q (by omega)
    have e2 : ((mem 40 1 - mem 40 2 + (q : Int)) % 30).toNat = ((mem 40 1 - n) % 30).toNat := by omega
    rw [e2] at r2
    refine fm_X10_undo (am_cbn (mp_in n 1 30) (fun _ => ⟨fun _ => ⟨?_, ?_, am_cl (mp_bring_backOf_now (i := 17 * q) (j := 0) (n := 17) ?_ rfl rfl (by omega) (by omega)) ⟨by omega, ?_, ?_⟩⟩, fun h => ?_⟩) (fun h => absurd h1 h))
    · show -2147483648 ≤ mem 0 24 - n ∧ mem 0 24 - n ≤ 2147483647; omega
    · show -2147483648 ≤ 17 * (mem 0 24 - n) ∧ 17 * (mem 0 24 - n) ≤ 2147483647; omega
    · show 17 * (mem 0 24 - n) = _; omega
    · show mem 10 (17 * q + 1) = mem 41 (17 * ((mem 40 1 - n) % 30).toNat + 1)
      exact (r2.1 1 (by omega)).symm
    · have ew : ∀ k, k < 17 → am_cp (am_up (rl_pop mem n) 0 24 (rl_pop mem n 0 24 - n)) 10 (17 * q) 8 0 17 8 k = mem 10 (17 * q + k) := fun k hk => by
        rw [am_cp_in (by omega) (by omega), show 17 * q + (k - 0) = 17 * q + k by omega]; rfl
      have ex : ∀ k, k < 17 → rl_xw (am_cp (am_up (rl_pop mem n) 0 24 (rl_pop mem n 0 24 - n)) 10 (17 * q) 8 0 17) k = mem 41 (17 * ((mem 40 1 - n) % 30).toNat + k) := fun k hk => rl_xw_ld (m := am_up (am_up mem 40 1 ((mem 40 1 - n) % 30)) 40 2 (mem 40 2 - n)) (f := fun k => mem 41 (17 * ((mem 40 1 - n) % 30).toNat + k)) hk
      refine ⟨⟨a.1, ?_⟩, b, ?_, ⟨?_, ?_, fun j hj => ?_⟩, e, f, i, j, k⟩
      · refine rl_rok_cg p4.2 ex (rl_rok_eq (rl_eq_symm r2) r1)
      · exact rl_eq_cg p4.2 ex ew r2
      · show (0 ≤ (mem 40 1 - n) % 30 ∧ (mem 40 1 - n) % 30 < 30) ∧ (0 ≤ mem 40 2 - n ∧ mem 40 2 - n ≤ 30); omega
      · show mem 0 24 - n = mem 40 2 - n; omega
      · have hj : (j : Int) < mem 40 2 - n := hj
        obtain ⟨s1, s2⟩ := d4 j (by omega)
        refine ⟨s1, ?_⟩
        show rl_eq (mem 29 4) (fun k => mem 41 (17 * (((mem 40 1 - n) % 30 - (mem 40 2 - n) + j) % 30).toNat + k)) _
        rw [show (((mem 40 1 - n) % 30 - (mem 40 2 - n) + j) % 30).toNat = ((mem 40 1 - mem 40 2 + j) % 30).toNat by omega]
        exact s2
    · exact absurd (show mem 0 24 < n from h) (by omega)
  · exact fm_X10_undo (am_cbn (mp_in n 1 30) (fun _ => ⟨fun h => by omega, fun _ => ⟨rfl, rl_R1 hR⟩⟩) (fun h => absurd h1 h))
  · exact fm_X10_undo (am_cbn (mp_in n 1 30) (fun h => absurd h h1) (fun _ => ⟨rfl, rl_R1 hR⟩))
theorem op_goBack {n : Int} (hR : rl_R t mem mem) : am_Mt l g 78 [.inr (.inl 17), .inl n] mem (rl_Q1 l g 154 [.inr (.inl 0), .inl n] t) := by
  have R1 := rl_R1 hR
  obtain ⟨a, b, c, d, e, f, i, j, k⟩ := R1
  obtain ⟨⟨⟨d1, d1'⟩, d2, d2'⟩, d3, d4⟩ := d
  have p4 := a.1.2.2.2.1
  refine fm_X9_goBack (am_cbn (sp_within n 0 1) (fun h1 => ⟨by omega, fun h2 => ?_, fun h2 => ?_⟩) (fun h1 => ?_))
  · obtain ⟨q, rfl⟩ : ∃ q : Nat, n = q := ⟨n.toNat, by omega⟩
    rw [Int.toNat_natCast] at h2 ⊢
    obtain ⟨e1, e2, e3⟩ := e q (by omega)
    obtain ⟨s1, s2, r1, r2⟩ := e3 (by omega)
    refine ⟨by omega, am_cl (sp_load_i (a := 17 * q) (by omega) (by omega)) ⟨by omega, am_cl sp_dforget ?_⟩⟩
    refine fm_X10_goBack (am_cbn (mp_in q 0 1) (fun _ => ⟨by omega, fun _ => ⟨by omega, am_cl (mp_bring_image_now (i := 17 * q) (j := 0) (n := 17) (by omega) rfl rfl (by omega) (by omega)) ⟨by omega, rfl, ?_⟩⟩, fun h => ?_⟩) (fun h => absurd h1 h))
    · rw [Int.toNat_natCast]
      generalize hx1 : am_up (am_up (rl_ld mem (fun k => mem 43 (17 * q + k))) 17 10 (rl_ld mem (fun k => mem 43 (17 * q + k)) 44 q)) 40 2 0 = x1
      have ew : ∀ k, k < 17 → am_up (am_up (am_cp x1 11 (17 * q) 8 0 17) 0 28 (am_cp x1 11 (17 * q) 8 0 17 12 q)) 0 24 0 8 k = mem 11 (17 * q + k) := fun k hk => by
        show am_cp x1 11 (17 * q) 8 0 17 8 k = _
        rw [am_cp_in (by omega) (by omega), show 17 * q + (k - 0) = 17 * q + k by omega, ← hx1]; rfl
      have ex : ∀ k, k < 17 → rl_xw (am_up (am_up (am_cp x1 11 (17 * q) 8 0 17) 0 28 (am_cp x1 11 (17 * q) 8 0 17 12 q)) 0 24 0) k = mem 43 (17 * q + k) := fun k hk => by
        rw [← hx1]; exact rl_xw_ld (m := mem) (f := fun k => mem 43 (17 * q + k)) hk
      have hr := rl_rok_cg p4.2 ex (rl_rok_eq (rl_eq_symm r2) r1)
      have hee := rl_eq_cg p4.2 ex ew r2
      subst hx1
      refine ⟨⟨a.1, hr⟩, b, hee, ⟨?_, rfl, fun j hj => absurd hj (by show ¬ (j : Int) < 0; omega)⟩, e, f, i, j, k.1, ?_, ?_⟩
      · show (0 ≤ mem 40 1 ∧ mem 40 1 < 30) ∧ ((0 : Int) ≤ 0 ∧ (0 : Int) ≤ 30); omega
      · exact s1
      · exact s2
    · rw [Int.toNat_natCast] at h
      exact absurd (show mem 13 q = 0 from h) (by omega)
  · obtain ⟨q, rfl⟩ : ∃ q : Nat, n = q := ⟨n.toNat, by omega⟩
    rw [Int.toNat_natCast] at h2
    obtain ⟨e1, e2, e3⟩ := e q (by omega)
    refine fm_X10_goBack (am_cbn (mp_in q 0 1) (fun _ => ⟨by omega, fun h => ?_, fun _ => ⟨rfl, rl_R1 hR⟩⟩) (fun h => absurd h1 h))
    rw [Int.toNat_natCast] at h
    omega
  · exact fm_X10_goBack (am_cbn (mp_in n 0 1) (fun h => absurd h h1) (fun _ => ⟨rfl, rl_R1 hR⟩))
theorem op_keep {n : Int} (hR : rl_R t mem mem) : am_Mt l g 77 [.inr (.inl 17), .inl n] mem (rl_Q1 l g 153 [.inr (.inl 0), .inl n] t) := by
  have R1 := rl_R1 hR
  have hok := rl_R_rok R1
  have ham := rl_R_am R1
  obtain ⟨a, b, c, d, e, f, i, j, k⟩ := R1
  obtain ⟨⟨⟨d1, d1'⟩, d2, d2'⟩, d3, d4⟩ := d
  have p4 := a.1.2.2.2.1
  have hok' : rl_rok (mem 29 4) (rl_am mem) (t + 1) (mem 8) := by rw [← ham, b.2.2.2.1]; exact hok
  refine fm_X9_keep (am_cbn (sp_within n 0 1) (fun h1 => ?_) (fun h1 => ?_))
  · obtain ⟨q, rfl⟩ : ∃ q : Nat, n = q := ⟨n.toNat, by omega⟩
    refine am_cl (sp_put (i := q) rfl (by omega)) (am_cl sp_dforget (fm_X10_keep (am_cbn (mp_in q 0 1) (fun _ => ⟨by omega, am_cl (mp_bring_now_image (i := 0) (j := 17 * q) (n := 17) rfl (by omega) rfl (by omega) (by omega)) ⟨by omega, ⟨by omega, Or.inr rfl⟩, rfl, ?_⟩⟩) (fun h => absurd h1 h))))
    rw [Int.toNat_natCast]
    refine ⟨a, b, c, ⟨?_, rfl, fun j hj => absurd hj (by show ¬ (j : Int) < 0; omega)⟩, fun r hr => ?_, f, i, j, k⟩
    · show (0 ≤ mem 40 1 ∧ mem 40 1 < 30) ∧ ((0 : Int) ≤ 0 ∧ (0 : Int) ≤ 30); omega
    · show am_up mem 45 q 1 45 r = am_up mem 13 q 1 13 r ∧ (am_up mem 13 q 1 13 r = 0 ∨ am_up mem 13 q 1 13 r = 1) ∧ (am_up mem 13 q 1 13 r = 1 → am_up mem 44 q (mem 17 10) 44 r = am_up mem 12 q (mem 0 28) 12 r ∧ (0 ≤ am_up mem 12 q (mem 0 28) 12 r ∧ am_up mem 12 q (mem 0 28) 12 r ≤ 2147483647) ∧ rl_rok (mem 29 4) (rl_am mem) (t + 1) (fun k => am_cp mem 8 0 11 (17 * q) 17 11 (17 * r + k)) ∧ rl_eq (mem 29 4) (fun k => rl_sv mem 43 (17 * q) 43 (17 * r + k)) (fun k => am_cp mem 8 0 11 (17 * q) 17 11 (17 * r + k)))
      by_cases hqr : r = q
      · subst hqr
        rw [am_up_at, am_up_at, am_up_at, am_up_at]
        have e1 : ∀ k, k < 17 → am_cp mem 8 0 11 (17 * r) 17 11 (17 * r + k) = mem 8 k := fun k hk => by
          rw [am_cp_in (by omega) (by omega), show 0 + (17 * r + k - 17 * r) = k by omega]
        exact ⟨rfl, Or.inr rfl, fun _ => ⟨k.2.1, k.2.2, rl_rok_cg p4.2 e1 hok', rl_eq_cg p4.2 (fun k hk => rl_sv_in hk) e1 c⟩⟩
      · rw [am_up_ni hqr, am_up_ni hqr, am_up_ni hqr, am_up_ni hqr]
        obtain ⟨g1, g2, g3⟩ := e r hr
        refine ⟨g1, g2, fun g4 => ?_⟩
        obtain ⟨g5, g6, g7, g8⟩ := g3 g4
        have e1 : ∀ k, k < 17 → am_cp mem 8 0 11 (17 * q) 17 11 (17 * r + k) = mem 11 (17 * r + k) := fun k hk => by
          rw [am_cp_out (by omega)]
        exact ⟨g5, g6, rl_rok_cg p4.2 e1 g7, rl_eq_cg p4.2 (fun k hk => rl_sv_out (by omega)) e1 g8⟩
  · exact fm_X10_keep (am_cbn (mp_in n 0 1) (fun h => absurd h h1) (fun _ => ⟨rfl, rl_R1 hR⟩))
theorem op_hand {a u : Int} (hR : rl_R t mem mem) : am_Mt l g 67 [.inr (.inl 17), .inl a, .inl u] mem (rl_Q1 l g 141 [.inr (.inl 0), .inl a, .inl u] t) := by
  have R1 := rl_R1 hR
  have hX := hR.1
  have hMP := rl_R_MP hR
  have hrk := rl_R_rok hR
  have p2 := hX.1.2.1
  have b0 := hR.2.1.1
  have b2 := hR.2.1.2.1
  have hb := rl_h_bd hX
  refine fm_X9_hand (am_cbe (sp_within a 0 99) (fun h0 => am_cbn (sp_isGust u) (fun h1 => ⟨fun ht => am_cl (sp_holdF hX) (am_cl (sp_holdB hX) (am_cq (sp_climb p2.1 p2.2 (by omega) (by omega) h1.1 h1.2) ?_)), fun ht => ?_⟩) (fun h1 => ?_)) (fun h0 => ?_))
  · rintro z m ⟨rfl, hz⟩
    refine ⟨by omega, am_cq (sp_climb p2.1 p2.2 (by omega) (by omega) h1.1 h1.2) ?_⟩
    rintro z2 m2 ⟨rfl, hz2⟩
    have key : am_Mt l g 141 [.inr (.inl 0), .inl a, .inl u] m2 (rl_Q2 t (if z2 = 9 then -1 else z2 - z)) := by
      refine fm_X10_hand (am_cbe (mp_in a 0 99) (fun _ => am_cbn (mp_in u 0 30) (fun _ => ⟨fun _ => am_cq (mp_highestBy_n hMP hrk h1.1 h1.2 h0.1 h0.2) ?_, fun h => by omega⟩) (fun h => absurd h1 h)) (fun h => absurd h0 h))
      rintro z' m' ⟨rfl, hz'⟩
      refine am_cq (mp_highestBy_n hMP hrk h1.1 h1.2 (by omega) (by omega)) ?_
      rintro z'' m'' ⟨rfl, hz''⟩
      have e : (fun p => rl_mh_n m'' 0 (p + u)) = fun p => rl_ok (m'' 29 2) (rl_hf (m'' 29 4).toNat (m'' 36 0) (m'' 37) (m'' 38)) (rl_hb (m'' 29 4).toNat (m'' 36 0) (m'' 37) (m'' 38)) (p + u) := by
        funext p; exact propext (rl_R_mh hR)
      have e' : (fun p => rl_mh_n m'' a (p + u)) = fun p => rl_ok (m'' 29 2) (rl_hf (m'' 29 4).toNat (m'' 36 0) (m'' 37) (m'' 38) + a) (rl_hb (m'' 29 4).toNat (m'' 36 0) (m'' 37) (m'' 38)) (p + u) := by
        funext p; unfold rl_mh_n; rw [rl_R_hf hR, rl_R_hb hR, b2]
      rw [e] at hz''
      rw [e'] at hz'
      have k1 := rl_hi_cl p2.1 h1.1 hz hz''
      have k2 := rl_hi_cl p2.1 h1.1 hz2 hz'
      have z9 := hz.1
      have z79 := hz.2.1
      have z29 := hz2.1
      have z279 := hz2.2.1
      have h9 : z'' = -1 ∧ z = 9 ∨ z'' = z ∧ z ≠ 9 := by
        by_cases q : z = 9
        · rw [if_pos q] at k1; exact Or.inl ⟨k1, q⟩
        · rw [if_neg q] at k1; exact Or.inr ⟨k1, q⟩
      have h9' : z' = -1 ∧ z2 = 9 ∨ z' = z2 ∧ z2 ≠ 9 := by
        by_cases q : z2 = 9
        · rw [if_pos q] at k2; exact Or.inl ⟨k2, q⟩
        · rw [if_neg q] at k2; exact Or.inr ⟨k2, q⟩
      refine ⟨fun q1 => ?_, fun q1 => ?_⟩
      · rw [if_neg (by omega)]
        exact ⟨fun q2 => ⟨by omega, by omega, R1⟩, fun q2 => ⟨by omega, by omega, R1⟩⟩
      · rw [if_pos (by omega)]; exact ⟨rfl, R1⟩
    have z9 := hz.1
    have z79 := hz.2.1
    have z29 := hz2.1
    have z279 := hz2.2.1
    refine ⟨fun h => ⟨by omega, ?_⟩, fun h => ?_⟩
    · rw [if_neg h] at key; exact key
    · rw [if_pos h] at key; exact key
  · exact fm_X10_hand (am_cbe (mp_in a 0 99) (fun _ => am_cbn (mp_in u 0 30) (fun _ => ⟨fun h => by omega, fun _ => ⟨rfl, R1⟩⟩) (fun h => absurd h1 h)) (fun h => absurd h0 h))
  · exact fm_X10_hand (am_cbe (mp_in a 0 99) (fun _ => am_cbn (mp_in u 0 30) (fun h => absurd h h1) (fun _ => ⟨rfl, R1⟩)) (fun h => absurd h0 h))
  · exact fm_X10_hand (am_cbe (mp_in a 0 99) (fun h => absurd h h0) (fun _ => ⟨rfl, R1⟩))
end OPE
