section OPH
variable {l : Launch} {g : am_G} {mem mm : am_Mem} {t : Int}
/-- all but what is tried and what could be -/
def rl_U (mem mm : am_Mem) : Prop := ∀ k, k ≠ 9 → k ≠ 16 → mm k = mem k
theorem rl_U_R (hR : rl_R t mem mem) (hU : rl_U mem mm) : rl_R t mm mm :=
  rl_R_fr hR (fun k h1 h2 h3 => hU k (by omega) (by omega)) (fun k h1 h2 h3 h4 h5 h6 => hU k h6 (by omega)) (fun j _ => by rw [hU 0 (by omega) (by omega)])
theorem rl_U_MP (hR : rl_R t mem mem) (hU : rl_U mem mm) : rl_MP mm := rl_R_MP (rl_U_R hR hU)
def rl_Qw (mm : am_Mem) (P : Prop) : am_Po := fun z m => (∀ k, k ≠ 9 → m k = mm k) ∧ ((P ∧ z = 1) ∨ (¬ P ∧ z = 0))
theorem mp_wouldHold {c : Nat} {ti p u : Int} (hR : rl_R t mem mem) (hU : rl_U mem mm) (hc : (c : Int) < mem 29 4) (ht : 0 ≤ ti ∧ ti ≤ 99) (hv : 0 ≤ p + u) (hv' : p + u ≤ 140) : am_Mt l g 145 [.inr (.inl 0), .inl c, .inl ti, .inl p, .inl u] mm (rl_Qw mm (rl_wh mem c ti (p + u))) := by
  have h4 := hR.1.1.2.2.2.1
  have hn := rl_X_now hR.1
  obtain ⟨b0, b2, b3, b4, b5, bc, br⟩ := hR.2.1
  obtain ⟨c0, c1, c2, c3, c4, cc⟩ := rl_he hR
  have hMP := rl_U_MP hR hU
  have u8 := hU 8 (by omega) (by omega)
  have u0 := hU 0 (by omega) (by omega)
  have u5 := hU 5 (by omega) (by omega)
  refine fm_X10_wouldHold (am_cl mp_begin ⟨by omega, by omega, ?_⟩)
  rw [rl_k9]
  have ew : ∀ i, i < 17 → am_up (am_cp mm 8 0 9 0 17) 9 (9 + c) ti 9 i = if i = 9 + c then ti else mem 8 i := fun i hi => by
    by_cases e : i = 9 + c
    · subst e; rw [if_pos rfl, am_up_at]
    · rw [if_neg e, am_up_ni e, rl_tr_w hi, u8]
  have hok : rl_hok (mm 0 16) (am_up (am_cp mm 8 0 9 0 17) 9 (9 + c) ti 9) := by
    refine ⟨?_, fun k hk => ⟨trivial, ?_, trivial⟩⟩
    · rw [ew 0 (by omega), if_neg (by omega), ← c0]; exact hn.1
    · rw [u0] at hk
      rw [ew (9 + k) (by omega)]
      split
      · exact ht
      · rw [← (cc k (by omega)).2.1]; exact (rl_X_c hR.1 (c := k) (by omega)).2.1
  have eP : rl_mh_t (am_up (am_cp mm 8 0 9 0 17) 9 (9 + c) ti) 0 (p + u) ↔ rl_wh mem c ti (p + u) := by
    unfold rl_mh_t rl_wh
    have e1 : rl_hf (mm 0 16).toNat (am_up (am_cp mm 8 0 9 0 17) 9 (9 + c) ti 9 0) (fun k => am_up (am_cp mm 8 0 9 0 17) 9 (9 + c) ti 9 (5 + k)) (fun k => am_up (am_cp mm 8 0 9 0 17) 9 (9 + c) ti 9 (9 + k)) = rl_hf (mem 29 4).toNat (mem 36 0) (mem 37) (fun k => if k = c then ti else mem 38 k) := by
      rw [ew 0 (by omega), if_neg (by omega), ← c0, u0, ← b4]
      unfold rl_hf
      congr 1
      refine rl_sm_cg _ (fun k hk => ?_)
      show rl_cf (am_up (am_cp mm 8 0 9 0 17) 9 (9 + c) ti 9 (5 + k)) (am_up (am_cp mm 8 0 9 0 17) 9 (9 + c) ti 9 (9 + k)) = _
      rw [ew (5 + k) (by omega), ew (9 + k) (by omega), if_neg (by omega), ← (cc k (by omega)).1, ← (cc k (by omega)).2.1]
      show _ = rl_cf (mem 37 k) (if k = c then ti else mem 38 k)
      by_cases e : k  = c
      · rw [if_pos (by omega), if_pos e]
      · rw [if_neg (by omega), if_neg e]
    have e2 : rl_hb (mm 0 16).toNat (am_up (am_cp mm 8 0 9 0 17) 9 (9 + c) ti 9 0) (fun k => am_up (am_cp mm 8 0 9 0 17) 9 (9 + c) ti 9 (5 + k)) (fun k => am_up (am_cp mm 8 0 9 0 17) 9 (9 + c) ti 9 (9 + k)) = rl_hb (mem 29 4).toNat (mem 36 0) (mem 37) (fun k => if k = c then ti else mem 38 k) := by
      rw [ew 0 (by omega), if_neg (by omega), ← c0, u0, ← b4]
      unfold rl_hb
      congr 1
      refine rl_sm_cg _ (fun k hk => ?_)
      show rl_cb (am_up (am_cp mm 8 0 9 0 17) 9 (9 + c) ti 9 (5 + k)) (am_up (am_cp mm 8 0 9 0 17) 9 (9 + c) ti 9 (9 + k)) = _
      rw [ew (5 + k) (by omega), ew (9 + k) (by omega), if_neg (by omega), ← (cc k (by omega)).1, ← (cc k (by omega)).2.1]
      show _ = rl_cb (mem 37 k) (if k = c then ti else mem 38 k)
      by_cases e : k  = c
      · rw [if_pos (by omega), if_pos e]
      · rw [if_neg (by omega), if_neg e]
    show rl_ok (mm 5 1) (rl_hf (mm 0 16).toNat _ _ _ + 0) (rl_hb (mm 0 16).toNat _ _ _) (p + u) ↔ _
    rw [e1, e2, Int.add_zero, u5, b2]
  have hlo : ∀ k, k ≠ 9 → am_up (am_cp mm 8 0 9 0 17) 9 (9 + c) ti k = mm k := fun k hk => by rw [am_up_k hk, am_cp_k hk]
  refine am_cbp (mp_holds_t (mem := am_up (am_cp mm 8 0 9 0 17) 9 (9 + c) ti) hMP hok hv hv') |>.elim (fun q hq => ⟨q, hq.1, fun z m hz => ?_⟩)
  obtain ⟨g1, g2, g3⟩ := hq.2 z m hz
  refine ⟨g1, ?_, ?_⟩
  · intro k hk; rw [g2]; exact hlo k hk
  · rcases g3 with ⟨g3, g4⟩ | ⟨g3, g4⟩
    · exact Or.inl ⟨eP.mp g3, g4⟩
    · exact Or.inr ⟨fun h => g3 (eP.mpr h), g4⟩
def rl_ft (mem : am_Mem) (c n : Nat) (ti : Int) : Prop := rl_sh mem c n ti ∧ rl_sn mem c n ti
def rl_JC (mem mm : am_Mem) (c : Nat) (ti : Int) : Nat → Int → Int → Int → Int → am_Mem → Prop := fun n v1 v2 v3 v4 m => v1 = c ∧ v2 = ti ∧ (∀ k, k ≠ 9 → m k = mm k) ∧ ∃ k : Nat, v4 = k ∧ (k : Int) ≤ mem 46 4 ∧ ((rl_ft mem c k ti ∧ v3 = 1) ∨ (¬ rl_ft mem c k ti ∧ v3 = 0)) ∧ n = 6 - k
theorem mp_couldBe {c : Nat} {ti : Int} (hR : rl_R t mem mem) (hU : rl_U mem mm) (hc : (c : Int) < mem 29 4) (ht : 0 ≤ ti ∧ ti ≤ 99) : am_Mt l g 146 [.inr (.inl 0), .inl c, .inl ti] mm (rl_Qw mm (rl_ft mem c (mem 46 4).toNat ti)) := by
  obtain ⟨⟨f1, f1'⟩, f2, f3⟩ := hR.2.2.2.2.2.1
  have hMP := rl_U_MP hR hU
  refine fm_X10_couldBe (rl_JC mem mm c ti) ⟨6, rfl, rfl, rfl, fun _ _ => rfl, 0, rfl, by omega, Or.inl ⟨⟨fun k hk => by omega, fun k hk => by omega⟩, rfl⟩, rfl⟩ ?_
  rintro n v1 v2 v3 v4 m ⟨rfl, rfl, hm, k, rfl, hk, hv, rfl⟩
  have e0 : m 0 29 = mem 46 4 := by rw [hm 0 (by omega), hU 0 (by omega) (by omega), f2]
  have e14 : m 14 = mem 14 := by rw [hm 14 (by omega), hU 14 (by omega) (by omega)]
  have hU' : rl_U mem m := fun k h1 h2 => by rw [hm k h1, hU k h1 h2]
  rw [e0]
  refine ⟨fun h => ?_, fun h => ?_⟩
  · have ek : (mem 46 4).toNat = k := by omega
    refine ⟨?_, hm, ?_⟩
    · rcases hv with ⟨_, q⟩ | ⟨_, q⟩
      · exact Or.inr q
      · exact Or.inl q
    · rw [ek]; exact hv
  · obtain ⟨g0, g1, g2, g3, g4, g5⟩ := f3 k h
    obtain ⟨s1, s2⟩ := f1' k h
    have go : ∀ v m', (∀ k, k ≠ 9 → m' k = m k) → ((rl_ft mem c (k + 1) v2 ∧ v = 1) ∨ (¬ rl_ft mem c (k + 1) v2 ∧ v = 0)) → ∃ n' : Nat, n' < 6 - k ∧ (0 : Nat) = 0 ∧ rl_JC mem mm c v2 n' c v2 v ((k : Int) + 1) m' := fun v m' hm' hv' =>
      ⟨6 - (k + 1), by omega, rfl, rfl, rfl, fun j hj => by rw [hm' j hj, hm j hj], k + 1, by omega, by omega, hv', rfl⟩
    refine ⟨fun h0 => ⟨by omega, go 0 m (fun _ _ => rfl) (Or.inr ⟨fun q => ?_, rfl⟩)⟩, fun h0 => ?_⟩
    · rcases hv with ⟨_, q'⟩ | ⟨q', _⟩
      · omega
      · exact q' ⟨(rl_sh_s.mp q.1).1, (rl_sn_s.mp q.2).1⟩
    · have hf : rl_ft mem c k v2 := by
        rcases hv with ⟨q', _⟩ | ⟨_, q'⟩
        · exact q'
        · exact absurd q' h0
      have a0 : (4 * (k : Int)).toNat = 4 * k := by omega
      have a1 : (4 * (k : Int) + 1).toNat = 4 * k + 1 := by omega
      have a2 : (4 * (k : Int) + 2).toNat = 4 * k + 2 := by omega
      have a3 : (4 * (k : Int) + 3).toNat = 4 * k + 3 := by omega
      rw [a0, a1, a2, a3, e14, ← g1, ← g2, ← g3]
      refine ⟨by omega, by omega, fun h1 => ⟨by omega, go 1 m (fun _ _ => rfl) (Or.inl ⟨⟨rl_sh_s.mpr ⟨hf.1, fun q => absurd q h1⟩, rl_sn_s.mpr ⟨hf.2, fun q => absurd q h1⟩⟩, rfl⟩)⟩, fun h1 => ⟨by omega, by omega, by omega, by omega, by omega, by omega, am_cq (mp_wouldHold hR hU' hc ht (by omega) (by omega)) ?_⟩⟩
      rintro z m' ⟨q1, q2⟩
      rw [q1 14 (by omega), e14, ← g4]
      have q3 : z = 0 ∨ z = 1 := by rcases q2 with ⟨_, q⟩ | ⟨_, q⟩ <;> omega
      have qt : z = 1 → rl_wh mem c v2 (mem 48 k + mem 49 k) := fun e => by
        rcases q2 with ⟨q, _⟩ | ⟨_, q⟩
        · exact q
        · omega
      have qf : ¬ z = 1 → ¬ rl_wh mem c v2 (mem 48 k + mem 49 k) := fun e => by
        rcases q2 with ⟨_, q⟩ | ⟨q, _⟩
        · omega
        · exact q
      refine ⟨by omega, by omega, by omega, fun h2 => ⟨fun h3 => ⟨by omega, go 0 m' q1 (Or.inr ⟨fun q => ?_, rfl⟩)⟩, fun h3 => ⟨by omega, go 1 m' q1 (Or.inl ⟨⟨rl_sh_s.mpr ⟨hf.1, fun _ q => ?_⟩, rl_sn_s.mpr ⟨hf.2, fun _ _ => qf (by omega)⟩⟩, rfl⟩)⟩⟩, fun h2 => ⟨fun h3 => ⟨by omega, go 0 m' q1 (Or.inr ⟨fun q => ?_, rfl⟩)⟩, fun h3 => ⟨by omega, go 1 m' q1 (Or.inl ⟨⟨rl_sh_s.mpr ⟨hf.1, fun _ _ => qt h3⟩, rl_sn_s.mpr ⟨hf.2, fun _ q => ?_⟩⟩, rfl⟩)⟩⟩⟩
      · exact (rl_sn_s.mp q.2).2 h1 (by omega) (qt (by omega))
      · omega
      · exact qf h3 ((rl_sh_s.mp q.1).2 h1 (by omega))
      · omega
/-- what the reference finds of one cord -/
def rl_wz (lo hi a z : Int) : Prop := (a = 0 → z = max 0 (hi - lo + 1)) ∧ (a = 1 → z = if lo ≤ hi then lo else -1) ∧ (a = 2 → z = if lo ≤ hi then hi else -1)
def rl_Qwas (mem : am_Mem) (lo hi a : Int) : am_Po := fun z m => rl_U mem m ∧ rl_wz lo hi a z ∧ ∀ j : Nat, j < 100 → (¬ m 16 j = 0 ↔ lo ≤ j ∧ (j : Int) ≤ hi)
def rl_JW (mem : am_Mem) (c : Nat) (a lo hi : Int) : Nat → Int → Int → Int → Int → Int → Int → am_Mem → Prop := fun n v1 v2 v3 v4 v5 v6 m => v1 = c ∧ v2 = a ∧ rl_U mem m ∧ ∃ k : Nat, v6 = k ∧ k ≤ 100 ∧ v3 = max 0 (min ((k : Int) - 1) hi - lo + 1) ∧ (v3 = 0 → v4 = -1 ∧ v5 = -1) ∧ (¬ v3 = 0 → v4 = lo ∧ v5 = min ((k : Int) - 1) hi) ∧ (∀ j : Nat, j < k → (¬ m 16 j = 0 ↔ lo ≤ j ∧ (j : Int) ≤ hi)) ∧ n = 100 - k
theorem mp_was {c : Nat} {a lo hi : Int} (hR : rl_R t mem mem) (hc : (c : Int) < mem 29 4) (ha : 0 ≤ a ∧ a ≤ 2) (hlo : 0 ≤ lo ∧ lo ≤ 100) (hhi : -1 ≤ hi ∧ hi ≤ 99) (hf : ∀ ti, 0 ≤ ti → ti ≤ 99 → (rl_ft mem c (mem 46 4).toNat ti ↔ lo ≤ ti ∧ ti ≤ hi)) {Q : am_Po} (hQ : ∀ z m, rl_Qwas mem lo hi a z m → Q z m) : am_Mt l g 147 [.inr (.inl 0), .inl c, .inl a] mem Q := by
  have h4 := hR.1.1.2.2.2.1
  have b4 := hR.2.1.2.2.2.1
  refine fm_X10_was (rl_JW mem c a lo hi) (am_cbn (mp_isCord (by omega) (by omega)) (fun _ => am_cbn (mp_in a 0 2) (fun _ => ⟨100, rfl, rfl, rfl, fun _ _ _ => rfl, 0, rfl, by omega, by omega, fun _ => ⟨rfl, rfl⟩, fun h => by omega, fun j hj => by omega, rfl⟩) (fun h => absurd ha h)) (fun h => absurd ⟨by omega, by omega⟩ h)) ?_
  rintro n v1 v2 v3 v4 v5 v6 m ⟨rfl, rfl, hU, k, rfl, hk, h3, h5, h6, hj, rfl⟩
  refine ⟨fun h => ?_, fun h => am_cq (mp_couldBe hR hU hc ⟨by omega, by omega⟩) ?_⟩
  · have hk' : k = 100 := by omega
    subst hk'
    refine ⟨fun h7 => ⟨fun h8 => hQ _ _ ⟨hU, ⟨fun q => absurd q h7, fun q => absurd q h8, fun q => ?_⟩, hj⟩, fun h8 => hQ _ _ ⟨hU, ⟨fun q => absurd q h7, fun q => ?_, fun q => by omega⟩, hj⟩⟩, fun h7 => hQ _ _ ⟨hU, ⟨fun q => ?_, fun q => by omega, fun q => by omega⟩, hj⟩⟩
    · by_cases e : v3 = 0
      · rw [if_neg (by omega)]; exact (h5 e).2
      · rw [if_pos (by omega)]; have := (h6 e).2; omega
    · by_cases e : v3 = 0
      · rw [if_neg (by omega)]; exact (h5 e).1
      · rw [if_pos (by omega)]; exact (h6 e).1
    · omega
  · rintro z m' ⟨q1, q2⟩
    have hz : z = 0 ∨ z = 1 := by rcases q2 with ⟨_, q⟩ | ⟨_, q⟩ <;> omega
    have hz1 : z = 1 ↔ lo ≤ (k : Int) ∧ (k : Int) ≤ hi := by
      rw [← hf k (by omega) (by omega)]
      rcases q2 with ⟨p1, p2⟩ | ⟨p1, p2⟩
      · exact ⟨fun _ => p1, fun _ => p2⟩
      · exact ⟨fun q => by omega, fun q => absurd q p1⟩
    rw [Int.toNat_natCast]
    have hU' : rl_U mem (am_up m' 16 k z) := fun i h1 h2 => by rw [am_up_k h2, q1 i h1, hU i h1 h2]
    have h16 : ∀ j : Nat, j < k + 1 → (¬ am_up m' 16 k z 16 j = 0 ↔ lo ≤ j ∧ (j : Int) ≤ hi) := fun j hjk => by
      by_cases e : j = k
      · subst e; rw [am_up_at, ← hz1]; omega
      · rw [am_up_ni e, q1 16 (by omega)]; exact hj j (by omega)
    have go : ∀ w3 w4 w5 : Int, w3 = max 0 (min (((k + 1 : Nat) : Int) - 1) hi - lo + 1) → (w3 = 0 → w4 = -1 ∧ w5 = -1) → (¬ w3 = 0 → w4 = lo ∧ w5 = min (((k + 1 : Nat) : Int) - 1) hi) → ∃ n' : Nat, n' < 100 - k ∧ (0 : Nat) = 0 ∧ rl_JW mem c v2 lo hi n' c v2 w3 w4 w5 ((k : Int) + 1) (am_up m' 16 k z) := fun w3 w4 w5 e1 e2 e3 => ⟨100 - (k + 1), by omega, rfl, rfl, rfl, hU', k + 1, by omega, by omega, e1, e2, e3, h16, rfl⟩
    rw [am_up_at]
    refine ⟨⟨by omega, hz⟩, by omega, fun h0 => ⟨by omega, go _ _ _ ?_ h5 (fun e => ?_)⟩, fun h0 => ⟨fun h7 => ⟨by omega, by omega, go _ _ _ ?_ (fun e => by omega) (fun e => ?_)⟩, fun h7 => ⟨by omega, by omega, go _ _ _ ?_ (fun e => by omega) (fun e => ?_)⟩⟩⟩
    · have : ¬ (lo ≤ (k : Int) ∧ (k : Int) ≤ hi) := fun q => by have := hz1.mpr q; omega
      omega
    · have : ¬ (lo ≤ (k : Int) ∧ (k : Int) ≤ hi) := fun q => by have := hz1.mpr q; omega
      have := h6 e
      omega
    · have := hz1.mp (by omega); omega
    · have := hz1.mp (by omega)
      have := h6 h7
      omega
    · have := hz1.mp (by omega); omega
    · have := hz1.mp (by omega)
      omega
theorem op_was {c a : Int} (hR : rl_R t mem mem) : am_Mt l g 71 [.inr (.inl 17), .inl c, .inl a] mem (rl_Q1 l g 147 [.inr (.inl 0), .inl c, .inl a] t) := by
  have R1 := rl_R1 hR
  have hX := hR.1
  have h4 := hX.1.2.2.2.1
  have b4 := hR.2.1.2.2.2.1
  have hs := hR.2.2.2.2.2.1.1
  refine fm_X9_was (am_cbn (sp_hasCord h4.2) (fun h1 => am_cbn (sp_within a 0 2) (fun h2 => ?_) (fun h2 => ?_)) (fun h1 => ?_))
  · obtain ⟨d, rfl⟩ : ∃ d : Nat, c = d := ⟨c.toNat, by omega⟩
    refine am_cq (sp_leastTight hX hs h1.2) ?_
    rintro lo m ⟨rfl, hl, hl', hlo⟩
    refine am_cq (sp_mostTight hX hs h1.2) ?_
    rintro hi m2 ⟨rfl, hh, hh', hhi⟩
    have hf : ∀ ti, 0 ≤ ti → ti ≤ 99 → (rl_ft m2 d (m2 46 4).toNat ti ↔ lo ≤ ti ∧ ti ≤ hi) := fun ti t0 t9 => by
      unfold rl_ft; rw [hlo ti t0 t9, hhi ti t0 t9]
    have key : ∀ z, rl_wz lo hi a z → am_Mt l g 147 [.inr (.inl 0), .inl d, .inl a] m2 (rl_Q2 t z) := fun z hz => by
      refine mp_was (l := l) (g := g) hR h1.2 h2 ⟨hl, hl'⟩ ⟨hh, hh'⟩ hf (fun z' m' hq => ?_)
      obtain ⟨q1, q2, q3⟩ := hq
      refine ⟨?_, rl_U_R R1 q1⟩
      have : a = 0 ∨ a = 1 ∨ a = 2 := by omega
      rcases this with e | e | e
      · rw [q2.1 e, hz.1 e]
      · rw [q2.2.1 e, hz.2.1 e]
      · rw [q2.2.2 e, hz.2.2 e]
    refine ⟨fun h3 => ⟨fun h5 => ⟨fun h6 => key _ ⟨fun e => by omega, fun e => by omega, fun e => by rw [if_pos h5]⟩, fun h6 => key _ ⟨fun e => by omega, fun e => by rw [if_pos h5], fun e => by omega⟩⟩, fun h5 => key _ ⟨fun e => by omega, fun e => by rw [if_neg (by omega)], fun e => by rw [if_neg (by omega)]⟩⟩, fun h3 => ⟨by omega, by omega, am_cl (sp_max _ _) (key _ ⟨fun e => rfl, fun e => by omega, fun e => by omega⟩)⟩⟩
  · exact fm_X10_was (fun _ _ _ _ _ _ _ _ => False) (am_cbn (mp_isCord (by omega) (by omega)) (fun _ => am_cbn (mp_in a 0 2) (fun h => absurd h h2) (fun _ => ⟨rfl, R1⟩)) (fun h => absurd ⟨h1.1, by omega⟩ h)) (fun _ _ _ _ _ _ _ _ h => h.elim)
  · exact fm_X10_was (fun _ _ _ _ _ _ _ _ => False) (am_cbn (mp_isCord (by omega) (by omega)) (fun h => absurd ⟨h.1, by omega⟩ h1) (fun _ => ⟨rfl, R1⟩)) (fun _ _ _ _ _ _ _ _ h => h.elim)
end OPH
