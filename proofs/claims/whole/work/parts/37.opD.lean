section OPD
variable {l : Launch} {g : am_G} {mem : am_Mem} {t : Int}
theorem am_up_k {a j k : Nat} {z : Int} (h : k ≠ a) : am_up mem a j z k = mem k := by funext i; exact am_up_ne h
theorem am_cp_k {a sp b dp n k : Nat} (h : k ≠ b) : am_cp mem a sp b dp n k = mem k := by funext i; exact am_cp_ne h
theorem rl_note_lo {x m : am_Mem} {k : Nat} (h0 : x 0 = m 0) (h8 : x 8 = m 8) (h10 : x 10 = m 10) (hk : x k = m k) : rl_note x k = rl_note m k := by
  funext i
  unfold rl_note
  rw [h0]
  split
  · simp only [am_cp, am_up, h8, h10, hk]
  · simp only [am_cp, am_up, h0, h8, h10, hk]
/-- a deed, then a change of Now -/
theorem rl_R_do {m2 : am_Mem} (hR : rl_R t mem mem) (hx : ∀ k, 17 ≤ k → k < 54 → ¬ (20 ≤ k ∧ k ≤ 28) → ¬ (36 ≤ k ∧ k ≤ 39) → m2 k = rl_push mem k) (hm : ∀ k, k < 16 → k ≠ 8 → m2 k = rl_note mem k) (hrok : rl_rok (mem 29 4) (rl_am mem) (t + 1) (rl_xw m2)) (he : rl_eq (mem 29 4) (rl_xw m2) (m2 8)) : rl_R (t + 1) m2 m2 := by
  have e29 : m2 29 = mem 29 := hx 29 (by omega) (by omega) (by omega) (by omega)
  have e30 : m2 30 = mem 30 := hx 30 (by omega) (by omega) (by omega) (by omega)
  have e31 : m2 31 = mem 31 := hx 31 (by omega) (by omega) (by omega) (by omega)
  have e32 : m2 32 = mem 32 := hx 32 (by omega) (by omega) (by omega) (by omega)
  have e33 : m2 33 = mem 33 := hx 33 (by omega) (by omega) (by omega) (by omega)
  have e34 : m2 34 = mem 34 := hx 34 (by omega) (by omega) (by omega) (by omega)
  have e35 : m2 35 = mem 35 := hx 35 (by omega) (by omega) (by omega) (by omega)
  refine rl_R_now' (by omega) (rl_R_push hR) ⟨?_, ?_⟩ hx (fun k _ h1 h2 => hm k h1 h2) he
  · have := hR.1.1
    unfold rl_P rl_pc rl_pr at this ⊢
    rw [e29, e30, e31, e32, e33, e34, e35]
    exact this
  · have : rl_am m2 = rl_am mem := by simp only [rl_am, e29, e33]
    rw [this, e29]; exact hrok
theorem rl_push_k {k : Nat} (h : k ≠ 40) (h2 : k ≠ 41) : rl_push mem k = mem k := by
  funext i; simp [rl_push, rl_sv, am_up, am_st, h, h2]
/-- the reference's memory after its note of the deed -/
def rl_NT (mem x1 N : am_Mem) : Prop := N 8 = mem 8 ∧ N 5 = mem 5 ∧ N 6 = mem 6 ∧ N 0 16 = mem 0 16 ∧ N 0 15 = mem 0 15 ∧ (∀ k, 17 ≤ k → N k = x1 k) ∧ ∀ k, k < 17 → N k = rl_note mem k
section NT
variable {x1 N : am_Mem}
theorem rl_NT.n8 (h : rl_NT mem x1 N) : N 8 = mem 8 := h.1
theorem rl_NT.n5 (h : rl_NT mem x1 N) : N 5 = mem 5 := h.2.1
theorem rl_NT.n6 (h : rl_NT mem x1 N) : N 6 = mem 6 := h.2.2.1
theorem rl_NT.n16 (h : rl_NT mem x1 N) : N 0 16 = mem 0 16 := h.2.2.2.1
theorem rl_NT.hi (h : rl_NT mem x1 N) : ∀ k, 17 ≤ k → N k = x1 k := h.2.2.2.2.2.1
theorem rl_NT.lo (h : rl_NT mem x1 N) : ∀ k, k < 17 → N k = rl_note mem k := h.2.2.2.2.2.2
end NT
theorem rl_note_N {x1 : am_Mem} (h : ∀ k, k < 17 → x1 k = mem k) : rl_NT mem x1 (rl_note x1) :=
  ⟨by rw [rl_note_c (by omega) (by omega)]; exact h 8 (by omega),
   by rw [rl_note_c (by omega) (by omega)]; exact h 5 (by omega),
   by rw [rl_note_c (by omega) (by omega)]; exact h 6 (by omega),
   by rw [rl_note_0 (by omega), h 0 (by omega)],
   by rw [rl_note_0 (by omega), h 0 (by omega)],
   fun k hk => rl_note_c (by omega) (by omega),
   fun k hk => rl_note_lo (h 0 (by omega)) (h 8 (by omega)) (h 10 (by omega)) (h k hk)⟩
theorem rl_R_N {x1 N m2 : am_Mem} (hR : rl_R t mem mem) (hN : rl_NT mem x1 N) (h2 : ∀ k, 17 ≤ k → ¬ (36 ≤ k ∧ k ≤ 39) → x1 k = rl_push mem k) (h3 : ∀ k, k ≠ 8 → m2 k = N k) (hrok : rl_rok (mem 29 4) (rl_am mem) (t + 1) (rl_xw x1)) (he : rl_eq (mem 29 4) (rl_xw x1) (m2 8)) : rl_R (t + 1) m2 m2 := by
  have ex : rl_xw m2 = rl_xw x1 := by
    funext k; unfold rl_xw
    rw [h3 36 (by omega), h3 37 (by omega), h3 38 (by omega), h3 39 (by omega), hN.hi 36 (by omega), hN.hi 37 (by omega), hN.hi 38 (by omega), hN.hi 39 (by omega)]
  refine rl_R_do hR (fun k a1 a2 a3 a4 => ?_) (fun k a1 a2 => ?_) ?_ ?_
  · rw [h3 k (by omega), hN.hi k a1, h2 k a1 a4]
  · rw [h3 k a2, hN.lo k (by omega)]
  · rw [ex]; exact hrok
  · rw [ex]; exact he
theorem rl_rok_xw {x : am_Mem} {nc am : Int} (hn : nc ≤ 4) (h0 : 0 ≤ x 36 0 ∧ x 36 0 ≤ 999) (h1 : 0 ≤ x 36 1 ∧ x 36 1 ≤ am) (h2 : 0 ≤ x 36 2 ∧ x 36 2 ≤ 902000 + 360 * x 36 1) (h3 : 0 ≤ x 36 3 ∧ x 36 3 ≤ t) (h4 : x 36 4 = 0 ∨ x 36 4 = 1) (hc : ∀ c : Nat, (c : Int) < nc → (0 ≤ x 37 c ∧ x 37 c ≤ 3) ∧ (0 ≤ x 38 c ∧ x 38 c ≤ 99) ∧ (0 ≤ x 39 c ∧ x 39 c ≤ x 36 1)) : rl_rok nc am t (rl_xw x) := by
  refine ⟨h0, h1, h2, h3, h4, fun c q => ?_⟩
  rw [rl_xw5 _ (by omega), rl_xw9 _ (by omega), rl_xw13 _ (by omega)]
  exact hc c q
theorem rl_eq_xw {x : am_Mem} {nc : Int} {w : Nat → Int} (hn : nc ≤ 4) (h0 : x 36 0 = w 0) (h1 : x 36 1 = w 1) (h2 : x 36 2 = w 2) (h3 : x 36 3 = w 3) (h4 : x 36 4 = w 4) (hc : ∀ c : Nat, (c : Int) < nc → x 37 c = w (5 + c) ∧ x 38 c = w (9 + c) ∧ x 39 c = w (13 + c)) : rl_eq nc (rl_xw x) w := by
  refine ⟨fun k hk => ?_, fun c q => ?_⟩
  · have : k = 0 ∨ k = 1 ∨ k = 2 ∨ k = 3 ∨ k = 4 := by omega
    rcases this with rfl | rfl | rfl | rfl | rfl
    · exact h0
    · exact h1
    · exact h2
    · exact h3
    · exact h4
  · rw [rl_xw5 _ (by omega), rl_xw9 _ (by omega), rl_xw13 _ (by omega)]
    exact hc c q
/-- all that is known of Now on both sides -/
theorem rl_he (hR : rl_R t mem mem) : mem 36 0 = mem 8 0 ∧ mem 36 1 = mem 8 1 ∧ mem 36 2 = mem 8 2 ∧ mem 36 3 = mem 8 3 ∧ mem 36 4 = mem 8 4 ∧ ∀ c : Nat, (c : Int) < mem 29 4 → mem 37 c = mem 8 (5 + c) ∧ mem 38 c = mem 8 (9 + c) ∧ mem 39 c = mem 8 (13 + c) := by
  have he := hR.2.2.1
  have h4 := hR.1.1.2.2.2.1
  refine ⟨he.1 0 (by omega), he.1 1 (by omega), he.1 2 (by omega), he.1 3 (by omega), he.1 4 (by omega), fun c hc => ?_⟩
  have := he.2 c hc
  rw [rl_xw5 _ (by omega), rl_xw9 _ (by omega), rl_xw13 _ (by omega)] at this
  exact this
theorem op_rain {a : Int} (hR : rl_R t mem mem) : am_Mt l g 56 [.inr (.inl 17), .inl a] mem (rl_Q1 l g 125 [.inr (.inl 0), .inl a] t) := by
  have R1 := rl_R1 hR
  have hX1 := rl_X_mono (t' := t + 1) (by omega) hR.1
  obtain ⟨q0, q1, q2, q3, q4⟩ := rl_X_now hX1
  have h4 := hR.1.1.2.2.2.1
  have b0 := hR.2.1.1
  obtain ⟨c0, c1, c2, c3, c4, cc⟩ := rl_he hR
  obtain ⟨⟨d1, d2⟩, d3, -⟩ := hR.2.2.2.1
  refine fm_X9_rain (am_cbn (sp_within a 1 99) (fun h1 => ⟨fun ht => am_cl (sp_push d1.1 d1.2 d2.1 d2.2) ⟨?_, am_cl (sp_min _ _) ?_⟩, fun ht => ?_⟩) (fun h1 => ?_))
  · show -2147483648 ≤ mem 36 0 + a ∧ mem 36 0 + a ≤ 2147483647; omega
  · show am_Mt l g 125 [.inr (.inl 0), .inl a] (am_up (rl_push mem) 36 0 (min (mem 36 0 + a) 999)) (rl_Q2 t (min (mem 36 0 + a) 999))
    generalize hv : min (mem 36 0 + a) 999 = v
    have hx : ∀ k, k < 17 → am_up (rl_push mem) 36 0 v k = mem k := fun k hk => by rw [am_up_k (by omega), rl_push_k (by omega) (by omega)]
    have hM := mp_note (l := l) (g := g) (mem := am_up (rl_push mem) 36 0 v) (show 0 ≤ mem 0 24 by omega) (show mem 0 24 ≤ 30 by omega)
    have hNT := rl_note_N hx
    generalize rl_note (am_up (rl_push mem) 36 0 v) = N at hM hNT
    have fin : ∀ v', v' = v → rl_Q2 t v v' (am_up N 8 0 v') := by
      rintro v' rfl
      refine ⟨rfl, rl_R_N hR hNT (fun k a1 a2 => am_up_k (by omega)) (fun k a1 => am_up_k (by omega)) (rl_rok_xw h4.2 ?_ q1 q2 q3 q4 (fun c hc => rl_X_c hX1 hc)) (rl_eq_xw h4.2 ?_ ?_ ?_ ?_ ?_ (fun c hc => ?_))⟩
      · show 0 ≤ v' ∧ v' ≤ 999; omega
      · rfl
      · show mem 36 1 = N 8 1; rw [hNT.n8]; exact c1
      · show mem 36 2 = N 8 2; rw [hNT.n8]; exact c2
      · show mem 36 3 = N 8 3; rw [hNT.n8]; exact c3
      · show mem 36 4 = N 8 4; rw [hNT.n8]; exact c4
      · rw [am_up_ni (by omega), am_up_ni (by omega), am_up_ni (by omega), hNT.n8]
        exact cc c hc
    refine fm_X10_rain (am_cbn (mp_in a 1 99) (fun _ => ⟨fun _ => am_cl hM ⟨by omega, ?_, fun h => ⟨by omega, ?_, by omega, by omega, fin _ ?_⟩, fun h => ⟨by omega, by omega, fin _ ?_⟩⟩, fun h => ?_⟩) (fun h => absurd h1 h))
    all_goals try rw [hNT.n8]
    all_goals try rw [hNT.n8] at h
    · omega
    · omega
    · omega
    · omega
    · exact absurd (show mem 0 15 = 0 from h) (by omega)
  · exact fm_X10_rain (am_cbn (mp_in a 1 99) (fun _ => ⟨fun h => by omega, fun _ => ⟨rfl, R1⟩⟩) (fun h => absurd h1 h))
  · exact fm_X10_rain (am_cbn (mp_in a 1 99) (fun h => absurd h h1) (fun _ => ⟨rfl, R1⟩))
/-- all cords pulled, in both memories -/
theorem rl_pl_x {n : Int} {c : Nat} (hc : (c : Int) < n) : rl_pull mem 38 39 n.toNat 38 c = mem 31 c ∧ rl_pull mem 38 39 n.toNat 39 c = 0 := by
  refine ⟨?_, ?_⟩
  · show (if c < n.toNat then mem 31 c else _) = _
    rw [if_pos (by omega)]
  · show (if c < n.toNat then 0 else _) = _
    rw [if_pos (by omega)]
theorem rl_pl_m {n : Int} {c : Nat} {tt w : Nat → Int} (hn : n ≤ 4) (hc : (c : Int) < n) : rw_pull n.toNat tt w (5 + c) = w (5 + c) ∧ rw_pull n.toNat tt w (9 + c) = tt c ∧ rw_pull n.toNat tt w (13 + c) = 0 := by
  unfold rw_pull
  refine ⟨?_, ?_, ?_⟩
  · rw [if_neg (by omega), if_neg (by omega)]
  · rw [if_pos (by omega), show 9 + c - 9 = c by omega]
  · rw [if_neg (by omega), if_pos (by omega)]
theorem op_stop (hR : rl_R t mem mem) : am_Mt l g 55 [.inr (.inl 17)] mem (rl_Q1 l g 124 [.inr (.inl 0)] t) := by
  have R1 := rl_R1 hR
  have hX1 := rl_X_mono (t' := t + 1) (by omega) hR.1
  obtain ⟨q0, q1, q2, q3, q4⟩ := rl_X_now hX1
  have h4 := hR.1.1.2.2.2.1
  have pc := hR.1.1.2.2.2.2.2.1
  have p3 := hR.1.1.2.2.1
  obtain ⟨b0, b2, b3, b4, b5, bc, br⟩ := hR.2.1
  obtain ⟨c0, c1, c2, c3, c4, cc⟩ := rl_he hR
  obtain ⟨⟨d1, d2⟩, d3, -⟩ := hR.2.2.2.1
  refine fm_X9_stop (am_cbn sp_onTheRoof (fun h1 => ⟨fun h2 => am_cl (sp_push d1.1 d1.2 d2.1 d2.2) (am_cl (sp_pullAll (mem := rl_push mem) h4.1 h4.2) ⟨?_, ?_⟩), fun h2 => ?_⟩) (fun h1 => ?_))
  · show -2147483648 ≤ mem 36 2 + mem 29 3 ∧ mem 36 2 + mem 29 3 ≤ 2147483647; omega
  · show am_Mt l g 124 [.inr (.inl 0)] (am_up (rl_pull (rl_push mem) 38 39 (mem 29 4).toNat) 36 2 (mem 36 2 + mem 29 3)) (rl_Q2 t (mem 36 2 + mem 29 3))
    generalize hv : mem 36 2 + mem 29 3 = v
    have hx : ∀ k, k < 17 → am_up (rl_pull (rl_push mem) 38 39 (mem 29 4).toNat) 36 2 v k = mem k := fun k hk => by
      rw [am_up_k (by omega)]; unfold rl_pull; rw [am_st_ne (by omega), am_st_ne (by omega), rl_push_k (by omega) (by omega)]
    have hM := mp_note (l := l) (g := g) (mem := am_up (rl_pull (rl_push mem) 38 39 (mem 29 4).toNat) 36 2 v) (show 0 ≤ mem 0 24 by omega) (show mem 0 24 ≤ 30 by omega)
    have hNT := rl_note_N hx
    generalize rl_note (am_up (rl_pull (rl_push mem) 38 39 (mem 29 4).toNat) 36 2 v) = N at hM hNT
    have fin : ∀ v', v' = v → rl_Q2 t v v' (am_up (am_st N 8 (rw_pull (mem 29 4).toNat (fun c => mem 6 (3 * c + 1)) (mem 8))) 8 2 v') := by
      rintro v' rfl
      refine ⟨rfl, rl_R_N hR hNT (fun k a1 a2 => ?_) (fun k a1 => ?_) (rl_rok_xw h4.2 q0 q1 ?_ q3 q4 (fun c hc => ?_)) (rl_eq_xw h4.2 c0 c1 rfl c3 c4 (fun c hc => ?_))⟩
      · rw [am_up_k (by omega)]; unfold rl_pull; rw [am_st_ne (by omega), am_st_ne (by omega)]
      · rw [am_up_k (by omega), am_st_ne (by omega)]
      · show 0 ≤ v' ∧ v' ≤ 902000 + 360 * mem 36 1; omega
      · have e := rl_pl_x (mem := rl_push mem) hc
        rw [am_up_k (by omega), am_up_k (by omega), am_up_k (by omega), e.1, e.2]
        exact ⟨(rl_X_c hX1 hc).1, (pc c hc).2.1, ⟨Int.le_refl 0, q1.1⟩⟩
      · have e := rl_pl_x (mem := rl_push mem) hc
        have e' := rl_pl_m (tt := fun c => mem 6 (3 * c + 1)) (w := mem 8) h4.2 hc
        refine ⟨?_, ?_, ?_⟩
        · show mem 37 c = _; rw [am_up_ni (by omega), am_st_at, e'.1]; exact (cc c hc).1
        · show rl_pull (rl_push mem) 38 39 (mem 29 4).toNat 38 c = _; rw [e.1, am_up_ni (by omega), am_st_at, e'.2.1]; exact (bc c hc).1
        · show rl_pull (rl_push mem) 38 39 (mem 29 4).toNat 39 c = _; rw [e.2, am_up_ni (by omega), am_st_at, e'.2.2]
    have hM2 := mp_pullAll_n (l := l) (g := g) (mem := N) (by rw [hNT.n16]; omega) (by rw [hNT.n16]; omega)
    rw [hNT.n16, hNT.n8, hNT.n6, ← b4] at hM2
    refine fm_X10_stop ⟨fun h => absurd (show mem 0 15 = 0 from h) (by omega), fun _ => ⟨by omega, fun _ => ⟨by omega, fun _ => am_cl hM (am_cl hM2 ⟨by omega, by omega, ?_, by omega, by omega, fin _ ?_⟩), fun h => absurd (show 900000 < mem 8 2 from h) (by omega)⟩, fun h => absurd (show mem 8 4 = 1 from h) (by omega)⟩⟩
    · show -2147483648 ≤ mem 8 2 + N 5 2 ∧ mem 8 2 + N 5 2 ≤ 2147483647
      rw [hNT.n5]; omega
    · show mem 8 2 + N 5 2 = v
      rw [hNT.n5]; omega
  · exact fm_X10_stop ⟨fun h => by omega, fun _ => ⟨by omega, fun _ => ⟨by omega, fun h => by omega, fun _ => ⟨rfl, R1⟩⟩, fun h => by omega⟩⟩
  · exact fm_X10_stop ⟨fun _ => ⟨rfl, R1⟩, fun h => ⟨by omega, fun h' => absurd ⟨by omega, by omega⟩ h1, fun _ => ⟨rfl, R1⟩⟩⟩
theorem op_pick (hR : rl_R t mem mem) : am_Mt l g 58 [.inr (.inl 17)] mem (rl_Q1 l g 127 [.inr (.inl 0)] t) := by
  have R1 := rl_R1 hR
  have hX1 := rl_X_mono (t' := t + 1) (by omega) hR.1
  obtain ⟨q0, q1, q2, q3, q4⟩ := rl_X_now hX1
  have h4 := hR.1.1.2.2.2.1
  have pc := hR.1.1.2.2.2.2.2.1
  have p3 := hR.1.1.2.2.1
  obtain ⟨b0, b2, b3, b4, b5, bc, br⟩ := hR.2.1
  obtain ⟨c0, c1, c2, c3, c4, cc⟩ := rl_he hR
  obtain ⟨⟨d1, d2⟩, d3, -⟩ := hR.2.2.2.1
  refine fm_X9_pick ⟨fun h1 => ⟨fun h2 => am_cl (sp_push d1.1 d1.2 d2.1 d2.2) (am_cl (sp_pullAll (mem := am_up (rl_push mem) 36 4 0) h4.1 h4.2) ⟨?_, ?_, ?_⟩), fun h2 => ?_⟩, fun h1 => ?_⟩
  · show -2147483648 ≤ 2 * mem 29 3 ∧ 2 * mem 29 3 ≤ 2147483647; omega
  · show -2147483648 ≤ mem 36 2 + 2 * mem 29 3 ∧ mem 36 2 + 2 * mem 29 3 ≤ 2147483647; omega
  · show am_Mt l g 127 [.inr (.inl 0)] (am_up (rl_pull (am_up (rl_push mem) 36 4 0) 38 39 (mem 29 4).toNat) 36 2 (mem 36 2 + 2 * mem 29 3)) (rl_Q2 t (mem 36 3))
    generalize hv : mem 36 2 + 2 * mem 29 3 = v
    have hx : ∀ k, k < 17 → am_up (rl_pull (am_up (rl_push mem) 36 4 0) 38 39 (mem 29 4).toNat) 36 2 v k = mem k := fun k hk => by
      rw [am_up_k (by omega)]; unfold rl_pull; rw [am_st_ne (by omega), am_st_ne (by omega), am_up_k (by omega), rl_push_k (by omega) (by omega)]
    have hM := mp_note (l := l) (g := g) (mem := am_up (rl_pull (am_up (rl_push mem) 36 4 0) 38 39 (mem 29 4).toNat) 36 2 v) (show 0 ≤ mem 0 24 by omega) (show mem 0 24 ≤ 30 by omega)
    have hNT := rl_note_N hx
    generalize rl_note (am_up (rl_pull (am_up (rl_push mem) 36 4 0) 38 39 (mem 29 4).toNat) 36 2 v) = N at hM hNT
    have fin : ∀ v', v' = v → rl_R (t + 1) (am_up (am_st (am_up N 8 4 0) 8 (rw_pull (mem 29 4).toNat (fun c => mem 6 (3 * c + 1)) (am_up N 8 4 0 8))) 8 2 v') (am_up (am_st (am_up N 8 4 0) 8 (rw_pull (mem 29 4).toNat (fun c => mem 6 (3 * c + 1)) (am_up N 8 4 0 8))) 8 2 v') := by
      rintro v' rfl
      refine rl_R_N hR hNT (fun k a1 a2 => ?_) (fun k a1 => ?_) (rl_rok_xw h4.2 q0 q1 ?_ q3 (Or.inl rfl) (fun c hc => ?_)) (rl_eq_xw h4.2 ?_ ?_ rfl ?_ rfl (fun c hc => ?_))
      · rw [am_up_k (by omega)]; unfold rl_pull; rw [am_st_ne (by omega), am_st_ne (by omega), am_up_k (by omega)]
      · rw [am_up_k (by omega), am_st_ne (by omega), am_up_k (by omega)]
      · show 0 ≤ v' ∧ v' ≤ 902000 + 360 * mem 36 1; omega
      · have e := rl_pl_x (mem := am_up (rl_push mem) 36 4 0) hc
        rw [am_up_k (by omega), am_up_k (by omega), am_up_k (by omega), e.1, e.2]
        exact ⟨(rl_X_c hX1 hc).1, (pc c hc).2.1, ⟨Int.le_refl 0, q1.1⟩⟩
      · show mem 36 0 = N 8 0; rw [hNT.n8]; exact c0
      · show mem 36 1 = N 8 1; rw [hNT.n8]; exact c1
      · show mem 36 3 = N 8 3; rw [hNT.n8]; exact c3
      · have e := rl_pl_x (mem := am_up (rl_push mem) 36 4 0) hc
        have e' := rl_pl_m (tt := fun c => mem 6 (3 * c + 1)) (w := am_up N 8 4 0 8) h4.2 hc
        refine ⟨?_, ?_, ?_⟩
        · show mem 37 c = _; rw [am_up_ni (by omega), am_st_at, e'.1, am_up_ni (by omega), hNT.n8]; exact (cc c hc).1
        · show rl_pull (am_up (rl_push mem) 36 4 0) 38 39 (mem 29 4).toNat 38 c = _; rw [e.1, am_up_ni (by omega), am_st_at, e'.2.1]; exact (bc c hc).1
        · show rl_pull (am_up (rl_push mem) 36 4 0) 38 39 (mem 29 4).toNat 39 c = _; rw [e.2, am_up_ni (by omega), am_st_at, e'.2.2]
    have e16 : am_up N 8 4 0 0 16 = mem 0 16 := hNT.n16
    have e6 : am_up N 8 4 0 6 = mem 6 := hNT.n6
    have hM2 := mp_pullAll_n (l := l) (g := g) (mem := am_up N 8 4 0) (by rw [e16]; omega) (by rw [e16]; omega)
    rw [e16, e6, ← b4] at hM2
    refine fm_X10_pick ⟨by omega, fun _ => ⟨by omega, fun _ => am_cl hM ⟨by omega, am_cl hM2 ⟨by omega, by omega, ?_, ?_, by omega, by omega, ?_, fin _ ?_⟩⟩, fun h => absurd (show 900000 < mem 8 2 from h) (by omega)⟩, fun h => absurd (show mem 8 4 = 0 from h) (by omega)⟩
    · show -2147483648 ≤ 2 * N 5 2 ∧ 2 * N 5 2 ≤ 2147483647
      rw [hNT.n5]; omega
    · show -2147483648 ≤ N 8 2 + 2 * N 5 2 ∧ N 8 2 + 2 * N 5 2 ≤ 2147483647
      rw [hNT.n5, hNT.n8]; omega
    · show N 8 3 = mem 36 3
      rw [hNT.n8]; omega
    · show N 8 2 + 2 * N 5 2 = v
      rw [hNT.n5, hNT.n8]; omega
  · exact fm_X10_pick ⟨by omega, fun _ => ⟨by omega, fun h => by omega, fun _ => ⟨rfl, R1⟩⟩, fun h => by omega⟩
  · exact fm_X10_pick ⟨by omega, fun h => by omega, fun _ => ⟨rfl, R1⟩⟩
theorem op_runs {c w : Int} (hR : rl_R t mem mem) : am_Mt l g 57 [.inr (.inl 17), .inl c, .inl w] mem (rl_Q1 l g 126 [.inr (.inl 0), .inl c, .inl w] t) := by
  have R1 := rl_R1 hR
  have hX1 := rl_X_mono (t' := t + 1) (by omega) hR.1
  obtain ⟨q0, q1, q2, q3, q4⟩ := rl_X_now hX1
  have hP := hR.1.1
  have h4 := hR.1.1.2.2.2.1
  have pc := hR.1.1.2.2.2.2.2.1
  have p3 := hR.1.1.2.2.1
  obtain ⟨b0, b2, b3, b4, b5, bc, br⟩ := hR.2.1
  obtain ⟨c0, c1, c2, c3, c4, cc⟩ := rl_he hR
  obtain ⟨⟨d1, d2⟩, d3, -⟩ := hR.2.2.2.1
  refine fm_X9_runs (am_cbn (sp_hasCord h4.2) (fun h1 => am_cbn (sp_within w 0 3) (fun h2 => am_cbn sp_onTheRoof (fun h3 => ⟨fun h5 => am_cl (sp_push d1.1 d1.2 d2.1 d2.2) ⟨by omega, by omega, am_cl (sp_pull_n (mem := am_up (rl_push mem) 37 c.toNat w) h4.2 h1.1 h1.2) ⟨?_, ?_⟩⟩, fun h5 => ?_⟩) (fun h3 => ?_)) (fun h2 => ?_)) (fun h1 => ?_))
  · show -2147483648 ≤ mem 36 2 + mem 29 3 ∧ mem 36 2 + mem 29 3 ≤ 2147483647; omega
  · obtain ⟨d, rfl⟩ : ∃ d : Nat, c = d := ⟨c.toNat, by omega⟩
    have hd4 : d < 4 := by omega
    show am_Mt l g 126 [.inr (.inl 0), .inl (d : Int), .inl w] (am_up (am_up (am_up (am_up (rl_push mem) 37 d w) 38 d (mem 31 d)) 39 d 0) 36 2 (mem 36 2 + mem 29 3)) (rl_Q2 t (mem 37 d))
    generalize hv : mem 36 2 + mem 29 3 = v
    have hx : ∀ k, k < 17 → (am_up (am_up (am_up (am_up (rl_push mem) 37 d w) 38 d (mem 31 d)) 39 d 0) 36 2 v) k = mem k := fun k hk => by
      rw [am_up_k (by omega), am_up_k (by omega), am_up_k (by omega), am_up_k (by omega), rl_push_k (by omega) (by omega)]
    have hM := mp_note (l := l) (g := g) (mem := am_up (am_up (am_up (am_up (rl_push mem) 37 d w) 38 d (mem 31 d)) 39 d 0) 36 2 v) (show 0 ≤ mem 0 24 by omega) (show mem 0 24 ≤ 30 by omega)
    have hNT := rl_note_N hx
    generalize hX' : am_up (am_up (am_up (am_up (rl_push mem) 37 d w) 38 d (mem 31 d)) 39 d 0) 36 2 v = x1 at hM hNT hx
    generalize rl_note x1 = N at hM hNT
    have fin : ∀ v', v' = v → rl_R (t + 1) (am_up (am_up (am_up (am_up N 8 (5 + d) w) 8 (9 + d) (mem 6 (3 * d + 1))) 8 (13 + d) 0) 8 2 v') (am_up (am_up (am_up (am_up N 8 (5 + d) w) 8 (9 + d) (mem 6 (3 * d + 1))) 8 (13 + d) 0) 8 2 v') := by
      rintro v' rfl
      have e0 : x1 36 0 = mem 36 0 := by rw [← hX']; rfl
      have e1 : x1 36 1 = mem 36 1 := by rw [← hX']; rfl
      have e2 : x1 36 2 = v' := by rw [← hX']; rfl
      have e3 : x1 36 3 = mem 36 3 := by rw [← hX']; rfl
      have e4 : x1 36 4 = mem 36 4 := by rw [← hX']; rfl
      have ec : ∀ k, k < 4 → x1 37 k = (if k = d then w else mem 37 k) ∧ x1 38 k = (if k = d then mem 31 k else mem 38 k) ∧ x1 39 k = (if k = d then 0 else mem 39 k) := fun k hk => by
        rw [← hX']
        refine ⟨?_, ?_, ?_⟩
        · show am_up (rl_push mem) 37 d w 37 k = _
          by_cases e : k = d
          · subst e; rw [if_pos rfl, am_up_at]
          · rw [if_neg e, am_up_ni e]; rfl
        · show am_up (am_up (rl_push mem) 37 d w) 38 d (mem 31 d) 38 k = _
          by_cases e : k = d
          · subst e; rw [if_pos rfl, am_up_at]
          · rw [if_neg e, am_up_ni e]; rfl
        · show am_up (am_up (am_up (rl_push mem) 37 d w) 38 d (mem 31 d)) 39 d 0 39 k = _
          by_cases e : k = d
          · subst e; rw [if_pos rfl, am_up_at]
          · rw [if_neg e, am_up_ni e]; rfl
      have ew : ∀ k, k < 5 → k ≠ 2 → am_up (am_up (am_up (am_up N 8 (5 + d) w) 8 (9 + d) (mem 6 (3 * d + 1))) 8 (13 + d) 0) 8 2 v' 8 k = mem 8 k := fun k hk h2 => by
        rw [am_up_ni h2, am_up_ni (by omega), am_up_ni (by omega), am_up_ni (by omega), hNT.n8]
      have ewc : ∀ k, k < 4 → am_up (am_up (am_up (am_up N 8 (5 + d) w) 8 (9 + d) (mem 6 (3 * d + 1))) 8 (13 + d) 0) 8 2 v' 8 (5 + k) = (if k = d then w else mem 8 (5 + k)) ∧ am_up (am_up (am_up (am_up N 8 (5 + d) w) 8 (9 + d) (mem 6 (3 * d + 1))) 8 (13 + d) 0) 8 2 v' 8 (9 + k) = (if k = d then mem 6 (3 * d + 1) else mem 8 (9 + k)) ∧ am_up (am_up (am_up (am_up N 8 (5 + d) w) 8 (9 + d) (mem 6 (3 * d + 1))) 8 (13 + d) 0) 8 2 v' 8 (13 + k) = (if k = d then 0 else mem 8 (13 + k)) := fun k hk => by
        refine ⟨?_, ?_, ?_⟩
        · rw [am_up_ni (by omega), am_up_ni (by omega), am_up_ni (by omega)]
          by_cases e : k = d
          · subst e; rw [if_pos rfl, am_up_at]
          · rw [if_neg e, am_up_ni (by omega), hNT.n8]
        · rw [am_up_ni (by omega), am_up_ni (by omega)]
          by_cases e : k = d
          · subst e; rw [if_pos rfl, am_up_at]
          · rw [if_neg e, am_up_ni (by omega), am_up_ni (by omega), hNT.n8]
        · rw [am_up_ni (by omega)]
          by_cases e : k = d
          · subst e; rw [if_pos rfl, am_up_at]
          · rw [if_neg e, am_up_ni (by omega), am_up_ni (by omega), am_up_ni (by omega), hNT.n8]
      refine rl_R_N hR hNT (fun k a1 a2 => ?_) (fun k a1 => ?_) (rl_rok_xw h4.2 (by rw [e0]; exact q0) (by rw [e1]; exact q1) (by rw [e1, e2]; omega) (by rw [e3]; exact q3) (by rw [e4]; exact q4) (fun k hk => ?_)) (rl_eq_xw h4.2 ?_ ?_ ?_ ?_ ?_ (fun k hk => ?_))
      · rw [← hX', am_up_k (by omega), am_up_k (by omega), am_up_k (by omega), am_up_k (by omega)]
      · rw [am_up_k a1, am_up_k a1, am_up_k a1, am_up_k a1]
      · obtain ⟨g1, g2, g3⟩ := ec k (by omega)
        have g4 := rl_X_c hX1 hk
        have g5 := pc k hk
        rw [g1, g2, g3, e1]
        by_cases e : k = d
        · rw [if_pos e, if_pos e, if_pos e]; exact ⟨h2, g5.2.1, Int.le_refl 0, q1.1⟩
        · rw [if_neg e, if_neg e, if_neg e]; exact g4
      · rw [ew 0 (by omega) (by omega), e0]; exact c0
      · rw [ew 1 (by omega) (by omega), e1]; exact c1
      · rw [am_up_at, e2]
      · rw [ew 3 (by omega) (by omega), e3]; exact c3
      · rw [ew 4 (by omega) (by omega), e4]; exact c4
      · obtain ⟨g1, g2, g3⟩ := ec k (by omega)
        obtain ⟨i1, i2, i3⟩ := ewc k (by omega)
        rw [g1, g2, g3, i1, i2, i3]
        by_cases e : k = d
        · subst e
          rw [if_pos rfl, if_pos rfl, if_pos rfl, if_pos rfl, if_pos rfl, if_pos rfl]; exact ⟨rfl, (bc k hk).1, rfl⟩
        · rw [if_neg e, if_neg e, if_neg e, if_neg e, if_neg e, if_neg e]; exact cc k hk
    have hM2 := mp_pull_n (l := l) (g := g) (mem := am_up N 8 (5 + d) w) (c := d) hd4
    rw [show am_up N 8 (5 + d) w 6 = mem 6 from hNT.n6] at hM2
    have hx0 := hx 0 (by omega)
    have hx8 := hx 8 (by omega)
    refine fm_X10_runs (am_cbn (mp_isCord (by rw [hx0]; omega) (by rw [hx0]; omega)) (fun _ => am_cbn (mp_in w 0 3) (fun _ => ⟨by omega, fun _ => ⟨by omega, fun _ => am_cl hM ⟨by omega, by omega, by omega, by omega, ?_⟩, fun h => ?_⟩, fun h => ?_⟩) (fun h => absurd h2 h)) (fun h => absurd h1 (by rw [hx0, ← b4] at h; exact h)))
    · rw [rl_k5]
      refine am_cl hM2 ⟨by omega, by omega, ?_, by omega, ?_, fin _ ?_⟩
      · rw [am_up_ni (by omega), am_up_ni (by omega), am_up_ni (by omega), hNT.n8]
        show -2147483648 ≤ mem 8 2 + N 5 2 ∧ mem 8 2 + N 5 2 ≤ 2147483647
        rw [hNT.n5]; omega
      · rw [hNT.n8]; exact (cc d h1.2).1.symm
      · rw [am_up_ni (by omega), am_up_ni (by omega), am_up_ni (by omega), hNT.n8]
        show mem 8 2 + N 5 2 = v
        rw [hNT.n5]; omega
    · rw [hx8] at h; omega
    · rw [hx8] at h; omega
  · exact fm_X10_runs (am_cbn (mp_isCord (by omega) (by omega)) (fun _ => am_cbn (mp_in w 0 3) (fun _ => ⟨by omega, fun _ => ⟨by omega, fun h => by omega, fun _ => ⟨rfl, R1⟩⟩, fun h => by omega⟩) (fun h => absurd h2 h)) (fun h => absurd ⟨h1.1, by omega⟩ h))
  · have h7 : ¬ mem 29 0 = 0 := fun h => by have := hP.2.2.2.2.2.2.2 h; omega
    exact fm_X10_runs (am_cbn (mp_isCord (by omega) (by omega)) (fun _ => am_cbn (mp_in w 0 3) (fun _ => ⟨by omega, fun h => absurd ⟨h7, by omega⟩ h3, fun _ => ⟨rfl, R1⟩⟩) (fun h => absurd h2 h)) (fun h => absurd ⟨h1.1, by omega⟩ h))
  · exact fm_X10_runs (am_cbn (mp_isCord (by omega) (by omega)) (fun _ => am_cbn (mp_in w 0 3) (fun h => absurd h h2) (fun _ => ⟨rfl, R1⟩)) (fun h => absurd ⟨h1.1, by omega⟩ h))
  · exact fm_X10_runs (am_cbn (mp_isCord (by omega) (by omega)) (fun h => absurd ⟨h.1, by omega⟩ h1) (fun _ => ⟨rfl, R1⟩))
end OPD
