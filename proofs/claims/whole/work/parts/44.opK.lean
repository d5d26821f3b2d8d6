section OPK
variable {l : Launch} {g : am_G} {mem m : am_Mem} {t : Int}
/-- the fresh Now: everything pulled -/
def rl_fr (mem m : am_Mem) : Prop := (∀ k, k < 54 → m k = mem k) ∧ m 59 0 = mem 36 0 ∧ ∀ c : Nat, (c : Int) < mem 29 4 → m 60 c = mem 37 c ∧ m 61 c = mem 31 c ∧ m 62 c = 0
def rl_hpf (mem : am_Mem) (n : Int) : Int := rl_hf (mem 29 4).toNat (mem 36 0) (mem 37) (fun c => rl_tb n (mem 31 c) 0 (mem 32 c))
def rl_hpb (mem : am_Mem) (n : Int) : Int := rl_hb (mem 29 4).toNat (mem 36 0) (mem 37) (fun c => rl_tb n (mem 31 c) 0 (mem 32 c))
def rl_hkf (mem : am_Mem) (n : Int) : Int := rl_hf (mem 29 4).toNat (mem 36 0) (mem 37) (fun c => rl_tb n (mem 38 c) (mem 39 c) (mem 32 c))
def rl_hkb (mem : am_Mem) (n : Int) : Int := rl_hb (mem 29 4).toNat (mem 36 0) (mem 37) (fun c => rl_tb n (mem 38 c) (mem 39 c) (mem 32 c))
theorem sp_begin_f (h0 : 0 ≤ mem 29 4) (h4 : mem 29 4 ≤ 4) : am_Mt l g 7 [.inr (.inl 59), .inr (.inl 29)] mem (fun _ m => (∀ k, k < 59 → m k = mem k) ∧ ∀ c : Nat, (c : Int) < mem 29 4 → m 61 c = mem 31 c ∧ m 62 c = 0) := by
  refine fm_X3_begin_f (fun n v2 m => (∀ k, k < 59 → m k = mem k) ∧ ∃ i : Nat, v2 = i ∧ (i : Int) ≤ mem 29 4 ∧ (∀ c : Nat, c < i → m 61 c = mem 31 c ∧ m 62 c = 0) ∧ n = 4 - i) ⟨4, rfl, rfl, fun k hk => ?_, 0, rfl, by omega, fun c hc => by omega, rfl⟩ ?_
  · rw [am_up_k (by omega), am_up_k (by omega), am_up_k (by omega), am_up_k (by omega), am_up_k (by omega)]
  · rintro n v2 m ⟨hm, i, rfl, hi, hc, rfl⟩
    have e29 := hm 29 (by omega)
    have e31 := hm 31 (by omega)
    rw [e29]
    refine ⟨fun h => ⟨hm, fun c hcc => hc c (by omega)⟩, fun h => ⟨fun h' => by omega, fun h' => ⟨by omega, by omega, ?_⟩⟩⟩
    rw [Int.toNat_natCast]
    have hp := sp_pull_f (l := l) (g := g) (mem := am_up m 60 i (m 30 i)) (c := i) (show m 29 4 ≤ 4 by rw [e29]; omega) (by omega) (show (i : Int) < m 29 4 by rw [e29]; omega)
    rw [Int.toNat_natCast] at hp
    refine am_cl hp ⟨by omega, 4 - (i + 1), by omega, rfl, rfl, fun k hk => ?_, i + 1, by omega, by omega, fun c hcc => ?_, rfl⟩
    · rw [am_up_k (by omega), am_up_k (by omega), am_up_k (by omega), hm k hk]
    · refine ⟨?_, ?_⟩
      · show am_up (am_up m 60 i (m 30 i)) 61 i (m 31 i) 61 c = _
        by_cases e : c = i
        · subst e; rw [am_up_at, e31]
        · rw [am_up_ni e]; exact (hc c (by omega)).1
      · by_cases e : c = i
        · subst e; rw [am_up_at]
        · rw [am_up_ni e]; exact (hc c (by omega)).2
theorem sp_holdFront_f {n : Int} (hX : rl_X t mem) (hf : rl_fr mem m) (hn : 0 ≤ n) (hn' : n ≤ 120) : am_Mt l g 10 [.inr (.inl 59), .inr (.inl 29), .inl n] m (am_vq (rl_hpf mem n) m) := by
  have hN := rl_X_now hX
  obtain ⟨p0, p2, p3, p4, p5, pc, pr, -⟩ := hX.1
  obtain ⟨f1, f2, f3⟩ := hf
  have e29 := f1 29 (by omega)
  have e32 := f1 32 (by omega)
  refine fm_X3_holdFront_f (fun k v2 v3 v4 m' => m' = m ∧ v2 = n ∧ ∃ c : Nat, v4 = c ∧ (c : Int) ≤ mem 29 4 ∧ v3 = rl_hf c (mem 36 0) (mem 37) (fun c => rl_tb n (mem 31 c) 0 (mem 32 c)) ∧ k = 4 - c) ⟨by omega, 4, rfl, rfl, rfl, rfl, 0, rfl, by omega, by rw [f2]; simp [rl_hf, rl_sm], rfl⟩ ?_
  rintro k v2 v3 v4 m' ⟨rfl, rfl, c, rfl, hc, rfl, rfl⟩
  have hb := rl_sm_bd (f := fun c => rl_cf (mem 37 c) (rl_tb v2 (mem 31 c) 0 (mem 32 c))) (K := 99) c (fun r hr => by
    have h2 := pc r (by omega)
    have h3 := rl_tb_bd (n := v2) (s := 0) h2.2.1.1 h2.2.1.2 h2.2.2.1 hn
    exact (rl_cf_bd h3.1 h3.2).1)
  rw [e29]
  refine ⟨fun h => ⟨?_, rfl⟩, fun h => ⟨fun h2 => by omega, fun h2 => ⟨by omega, by omega, by omega, by omega, ?_⟩⟩⟩
  · unfold rl_hpf; rw [show (mem 29 4).toNat = c by omega]
  · obtain ⟨g1, g2, g3⟩ := f3 c h
    have h3 := pc c h
    have h4 := rl_tb_bd (n := v2) (s := 0) h3.2.1.1 h3.2.1.2 h3.2.2.1 hn
    have h5 := (rl_cf_bd (way := mem 37 c) h4.1 h4.2).1
    rw [Int.toNat_natCast, g2, g3, e32]
    refine am_cl (sp_tightBehind hn (by omega) h3.2.1.1 h3.2.1.2 (by omega) (by omega) h3.2.2.1 h3.2.2.2) ?_
    rw [g1]
    refine am_cl (sp_cordFront h4.1) ⟨?_, by omega, 4 - (c + 1), by omega, rfl, rfl, rfl, rfl, c + 1, by omega, by omega, ?_, rfl⟩
    · simp only [rl_hf]; omega
    · simp only [rl_hf, rl_sm]; omega
theorem sp_holdBack_f {n : Int} (hX : rl_X t mem) (hf : rl_fr mem m) (hn : 0 ≤ n) (hn' : n ≤ 120) : am_Mt l g 11 [.inr (.inl 59), .inr (.inl 29), .inl n] m (am_vq (rl_hpb mem n) m) := by
  have hN := rl_X_now hX
  obtain ⟨p0, p2, p3, p4, p5, pc, pr, -⟩ := hX.1
  obtain ⟨f1, f2, f3⟩ := hf
  have e29 := f1 29 (by omega)
  have e32 := f1 32 (by omega)
  refine fm_X3_holdBack_f (fun k v2 v3 v4 m' => m' = m ∧ v2 = n ∧ ∃ c : Nat, v4 = c ∧ (c : Int) ≤ mem 29 4 ∧ v3 = rl_hb c (mem 36 0) (mem 37) (fun c => rl_tb n (mem 31 c) 0 (mem 32 c)) ∧ k = 4 - c) ⟨by omega, by omega, 4, rfl, rfl, rfl, rfl, 0, rfl, by omega, by rw [f2]; simp [rl_hb, rl_sm], rfl⟩ ?_
  rintro k v2 v3 v4 m' ⟨rfl, rfl, c, rfl, hc, rfl, rfl⟩
  have hb := rl_sm_bd (f := fun c => rl_cb (mem 37 c) (rl_tb v2 (mem 31 c) 0 (mem 32 c))) (K := 99) c (fun r hr => by
    have h2 := pc r (by omega)
    have h3 := rl_tb_bd (n := v2) (s := 0) h2.2.1.1 h2.2.1.2 h2.2.2.1 hn
    exact (rl_cf_bd h3.1 h3.2).2)
  rw [e29]
  refine ⟨fun h => ⟨?_, rfl⟩, fun h => ⟨fun h2 => by omega, fun h2 => ⟨by omega, by omega, by omega, by omega, ?_⟩⟩⟩
  · unfold rl_hpb; rw [show (mem 29 4).toNat = c by omega]
  · obtain ⟨g1, g2, g3⟩ := f3 c h
    have h3 := pc c h
    have h4 := rl_tb_bd (n := v2) (s := 0) h3.2.1.1 h3.2.1.2 h3.2.2.1 hn
    have h5 := (rl_cf_bd (way := mem 37 c) h4.1 h4.2).2
    rw [Int.toNat_natCast, g2, g3, e32]
    refine am_cl (sp_tightBehind hn (by omega) h3.2.1.1 h3.2.1.2 (by omega) (by omega) h3.2.2.1 h3.2.2.2) ?_
    rw [g1]
    refine am_cl (sp_cordBack h4.1 h4.2) ⟨?_, by omega, 4 - (c + 1), by omega, rfl, rfl, rfl, rfl, c + 1, by omega, by omega, ?_, rfl⟩
    · simp only [rl_hb]; omega
    · simp only [rl_hb, rl_sm]; omega
/-- the ride is prepared -/
def rl_pre (mem m : am_Mem) (n : Nat) : Prop := (∀ k, k < 54 → m k = mem k) ∧ ∀ i : Nat, i < n → m 55 i = rl_hkf mem i ∧ m 56 i = rl_hkb mem i ∧ m 57 i = rl_hpf mem i ∧ m 58 i = rl_hpb mem i
theorem sp_prepare {L : Int} (hX : rl_X t mem) (h0 : 0 ≤ L) (h1 : L ≤ 120) : am_Mt l g 36 [.inr (.inl 54), .inr (.inl 29), .inr (.inl 36), .inl L] mem (fun _ m => rl_pre mem m L.toNat) := by
  have h4 := hX.1.2.2.2.1
  have hXm : ∀ m : am_Mem, (∀ k, k < 54 → m k = mem k) → rl_X t m := fun m hm => rl_X_cg hX (hm 29 (by omega)) (hm 30 (by omega)) (hm 31 (by omega)) (hm 32 (by omega)) (hm 33 (by omega)) (hm 34 (by omega)) (hm 35 (by omega)) (hm 36 (by omega)) (hm 37 (by omega)) (hm 38 (by omega)) (hm 39 (by omega))
  have hk1 : ∀ (m : am_Mem) (i : Nat), (∀ k, k < 54 → m k = mem k) → i ≤ 120 → am_Mt l g 10 [.inr (.inl 36), .inr (.inl 29), .inl i] m (am_vq (rl_hkf mem i) m) := fun m i hm hi => by
    have := sp_holdFront_n (l := l) (g := g) (mem := m) (n := i) (hXm m hm) (by omega) (by omega)
    rw [hm 29 (by omega), hm 36 (by omega), hm 37 (by omega), hm 38 (by omega), hm 39 (by omega), hm 32 (by omega)] at this
    exact this
  have hk2 : ∀ (m : am_Mem) (i : Nat), (∀ k, k < 54 → m k = mem k) → i ≤ 120 → am_Mt l g 11 [.inr (.inl 36), .inr (.inl 29), .inl i] m (am_vq (rl_hkb mem i) m) := fun m i hm hi => by
    have := sp_holdBack_n (l := l) (g := g) (mem := m) (n := i) (hXm m hm) (by omega) (by omega)
    rw [hm 29 (by omega), hm 36 (by omega), hm 37 (by omega), hm 38 (by omega), hm 39 (by omega), hm 32 (by omega)] at this
    exact this
  refine fm_X6_prepare (fun n v3 v4 m => v3 = L ∧ rl_fr mem m ∧ ∃ i : Nat, v4 = i ∧ (i : Int) ≤ L ∧ rl_pre mem m i ∧ n = (L - i).toNat) (am_cq (sp_begin_f h4.1 h4.2) ?_) ?_
  · rintro z m ⟨hm, hc⟩
    have fr : ∀ k, k < 54 → am_cp (am_up m 59 0 (m 36 0)) 37 0 60 0 4 k = mem k := fun k hk => by rw [am_cp_k (by omega), am_up_k (by omega), hm k (by omega)]
    refine ⟨by omega, _, rfl, rfl, rfl, rfl, ⟨fr, ?_, fun c hcc => ⟨?_, ?_, ?_⟩⟩, 0, rfl, by omega, ⟨fr, fun i hi => by omega⟩, rfl⟩
    · show m 36 0 = mem 36 0
      rw [hm 36 (by omega)]
    · rw [am_cp_in (by omega) (by omega), show 0 + (c - 0) = c by omega]
      show m 37 c = _
      rw [hm 37 (by omega)]
    · exact (hc c hcc).1
    · exact (hc c hcc).2
  · rintro n v3 v4 m ⟨rfl, hf, i, rfl, hi, hp, rfl⟩
    have fin : (i : Int) = v3 → rl_pre mem m v3.toNat := fun e => by rw [← e, Int.toNat_natCast]; exact hp
    refine ⟨fun h => fin (by omega), fun h => ⟨fun h' => by omega, fun h' => am_cl (hk1 m i hf.1 (by omega)) ⟨by omega, ?_⟩⟩⟩
    rw [Int.toNat_natCast]
    have hm1 : ∀ k, k < 54 → am_up m 55 i (rl_hkf mem i) k = mem k := fun k hk => by rw [am_up_k (by omega), hf.1 k hk]
    refine am_cl (hk2 _ i hm1 (by omega)) ⟨by omega, ?_⟩
    have hf2 : rl_fr mem (am_up (am_up m 55 i (rl_hkf mem i)) 56 i (rl_hkb mem i)) := ⟨fun k hk => by rw [am_up_k (by omega), hm1 k hk], hf.2.1, hf.2.2⟩
    refine am_cl (sp_holdFront_f hX hf2 (by omega) (by omega)) ⟨by omega, ?_⟩
    have hf3 : rl_fr mem (am_up (am_up (am_up m 55 i (rl_hkf mem i)) 56 i (rl_hkb mem i)) 57 i (rl_hpf mem i)) := ⟨fun k hk => by rw [am_up_k (by omega), hf2.1 k hk], hf.2.1, hf.2.2⟩
    refine am_cl (sp_holdBack_f hX hf3 (by omega) (by omega)) ⟨by omega, by omega, (v3 - ((i + 1 : Nat) : Int)).toNat, by omega, rfl, rfl, rfl, rfl, ⟨fun k hk => by rw [am_up_k (by omega), hf3.1 k hk], hf.2.1, hf.2.2⟩, i + 1, by omega, by omega, ⟨fun k hk => by rw [am_up_k (by omega), hf3.1 k hk], fun j hj => ?_⟩, rfl⟩
    show am_up m 55 i (rl_hkf mem i) 55 j = _ ∧ am_up m 56 i (rl_hkb mem i) 56 j = _ ∧ am_up m 57 i (rl_hpf mem i) 57 j = _ ∧ am_up m 58 i (rl_hpb mem i) 58 j = _
    by_cases e : j = i
    · subst e; rw [am_up_at, am_up_at, am_up_at, am_up_at]; exact ⟨rfl, rfl, rfl, rfl⟩
    · rw [am_up_ni e, am_up_ni e, am_up_ni e, am_up_ni e]; exact hp.2 j (by omega)
/-- one mile of a ride: the road, the pace, whether it holds -/
def rl_roi (mem : am_Mem) (i : Nat) : Nat := (rl_rd (mem 29 5).toNat (mem 33) (mem 36 1 + i)).toNat
def rl_own (mem : am_Mem) (pace : Int) (i : Nat) : Int := min pace (mem 34 (rl_roi mem i))
def rl_vi (mem : am_Mem) (pace : Int) (i : Nat) : Int := rl_own mem pace i + mem 35 (rl_roi mem i)
def rl_H (mem : am_Mem) (pa i v : Int) : Prop := (pa = -1 → rl_ok (mem 29 2) (rl_hkf mem i) (rl_hkb mem i) v) ∧ (¬ pa = -1 → rl_ok (mem 29 2) (rl_hpf mem (i - pa)) (rl_hpb mem (i - pa)) v)
def rl_ri (mem : am_Mem) (pace : Int) : Nat → Int → Int → Int → Prop
  | 0, pa, pu, fi => pa = -1 ∧ pu = 0 ∧ fi = -1
  | i + 1, pa, pu, fi => ∃ pa0 pu0 fi0, rl_ri mem pace i pa0 pu0 fi0 ∧ ((rl_H mem pa0 i (rl_vi mem pace i) ∧ pa = pa0 ∧ pu = pu0 ∧ fi = fi0) ∨ (¬ rl_H mem pa0 i (rl_vi mem pace i) ∧ rl_H mem i i (rl_vi mem pace i) ∧ pa = i ∧ pu = pu0 + 1 ∧ ((fi0 = -1 ∧ fi = i) ∨ (¬ fi0 = -1 ∧ fi = fi0))))
def rl_rf (mem : am_Mem) (pace : Int) (i : Nat) : Prop := ∃ pa0 pu0 fi0, rl_ri mem pace i pa0 pu0 fi0 ∧ ¬ rl_H mem pa0 i (rl_vi mem pace i) ∧ ¬ rl_H mem i i (rl_vi mem pace i)
theorem rl_ri_un {pace : Int} : ∀ (i : Nat) (a b c a' b' c' : Int), rl_ri mem pace i a b c → rl_ri mem pace i a' b' c' → a' = a ∧ b' = b ∧ c' = c
  | 0, a, b, c, a', b', c', h, h' => by
    obtain ⟨rfl, rfl, rfl⟩ := h
    exact h'
  | i + 1, a, b, c, a', b', c', h, h' => by
    obtain ⟨a0, b0, c0, h1, h2⟩ := h
    obtain ⟨a0', b0', c0', h1', h2'⟩ := h'
    obtain ⟨rfl, rfl, rfl⟩ := rl_ri_un i _ _ _ _ _ _ h1 h1'
    rcases h2 with ⟨p, q⟩ | ⟨p, q, r⟩
    · rcases h2' with ⟨p', q'⟩ | ⟨p', q', r'⟩
      · omega
      · exact absurd p p'
    · rcases h2' with ⟨p', q'⟩ | ⟨p', q', r'⟩
      · exact absurd p' p
      · omega
theorem rl_ri_bd {pace : Int} : ∀ (i : Nat) (a b c : Int), rl_ri mem pace i a b c → (-1 ≤ a ∧ a < i ∨ a = -1) ∧ (0 ≤ b ∧ b ≤ i) ∧ (-1 ≤ c ∧ c < i ∨ c = -1)
  | 0, a, b, c, h => by obtain ⟨rfl, rfl, rfl⟩ := h; omega
  | i + 1, a, b, c, h => by
    obtain ⟨a0, b0, c0, h1, h2⟩ := h
    have := rl_ri_bd i _ _ _ h1
    rcases h2 with ⟨p, q⟩ | ⟨p, q, r⟩ <;> omega
theorem rl_ri_nf {pace : Int} : ∀ (L : Nat) (a b c : Int), rl_ri mem pace L a b c → ∀ i, i < L → ¬ rl_rf mem pace i
  | 0, _, _, _, _, i, hi => by omega
  | L + 1, a, b, c, h, i, hi => by
    obtain ⟨a0, b0, c0, h1, h2⟩ := h
    by_cases e : i = L
    · subst e
      rintro ⟨a1, b1, c1, g1, g2, g3⟩
      obtain ⟨rfl, rfl, rfl⟩ := rl_ri_un _ _ _ _ _ _ _ h1 g1
      rcases h2 with ⟨p, q⟩ | ⟨p, q, r⟩
      · exact g2 p
      · exact g3 q
    · exact rl_ri_nf L _ _ _ h1 i (by omega)
theorem sp_holdsNext {i : Nat} {L : Nat} {v : Int} (hp : rl_pre mem m L) (hi : m 54 5 = i) (hL : i < L) (hL' : L ≤ 120) (hpa : m 54 6 = -1 ∨ (0 ≤ m 54 6 ∧ m 54 6 ≤ i)) : am_Mt l g 39 [.inr (.inl 54), .inl (rl_F (mem 29 2) v), .inl (rl_Bk (mem 29 2) v)] m (am_bq (rl_H mem (m 54 6) i v) m) := by
  refine fm_X6_holdsNext ⟨fun h => ?_, fun h => ?_⟩
  · obtain ⟨d, hd⟩ : ∃ d : Nat, m 54 5 - m 54 6 = d := ⟨(m 54 5 - m 54 6).toNat, by omega⟩
    have ed : (i : Int) - m 54 6 = d := by omega
    obtain ⟨g1, g2, g3, g4⟩ := hp.2 d (by omega)
    rw [hd, Int.toNat_natCast, g3, g4]
    refine ⟨by omega, fun h1 => by omega, fun _ => ⟨fun _ => ⟨fun _ => ⟨by omega, fun h1 => am_R0 (am_b0 (fun q => ?_)), fun h1 => ⟨by omega, fun h2 => am_R0 (am_b0 (fun q => ?_)), fun h2 => am_R1 (am_b1 ⟨fun e => absurd e h, fun _ => ?_⟩)⟩⟩, fun e => absurd e h⟩, fun h1 => by omega⟩⟩
    · have := (q.2 h).1; rw [ed] at this; omega
    · have := (q.2 h).2; rw [ed] at this; omega
    · rw [ed]; exact ⟨h1, h2⟩
  · obtain ⟨g1, g2, g3, g4⟩ := hp.2 i (by omega)
    rw [hi, Int.toNat_natCast, g1, g2]
    refine ⟨fun h1 => by omega, fun _ => ⟨fun _ => ⟨fun e => absurd h e, fun _ => ⟨by omega, fun h1 => am_R0 (am_b0 (fun q => ?_)), fun h1 => ⟨by omega, fun h2 => am_R0 (am_b0 (fun q => ?_)), fun h2 => am_R1 (am_b1 ⟨fun _ => ⟨h1, h2⟩, fun e => absurd h e⟩)⟩⟩⟩, fun h1 => by omega⟩⟩
    · have := (q.1 h).1; omega
    · have := (q.1 h).2; omega
end OPK
