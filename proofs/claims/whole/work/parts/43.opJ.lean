section OPJ
variable {l : Launch} {g : am_G} {mem mm : am_Mem} {t : Int}
def rl_dg (nc w : Int) (c : Nat) : Int := w / 2 ^ (2 * (nc - 1 - (c : Int))).toNat % 4
def rl_wf (mem : am_Mem) (w : Int) : Int := mem 36 0 / 2 + rl_sm (mem 29 4).toNat (fun c => rl_cf (rl_dg (mem 29 4) w c) (mem 31 c))
def rl_wb (mem : am_Mem) (w : Int) : Int := mem 36 0 - mem 36 0 / 2 + rl_sm (mem 29 4).toNat (fun c => rl_cb (rl_dg (mem 29 4) w c) (mem 31 c))
def rl_bw (mem : am_Mem) (u : Int) : Nat → Int → Int → Prop
  | 0, p, w => p = 9 ∧ w = 0
  | k + 1, p, w => ∃ p0 w0 z, rl_bw mem u k p0 w0 ∧ rl_cl (mem 29 2) (rl_wf mem k) (rl_wb mem k) p0 u z ∧ ((z ≤ p0 ∧ p = p0 ∧ w = w0) ∨ (p0 < z ∧ p = z ∧ w = k))
theorem rl_bw_bd {u : Int} : ∀ (k : Nat) (p w : Int), rl_bw mem u k p w → (9 ≤ p ∧ p ≤ 70) ∧ 0 ≤ w
  | 0, p, w, h => by obtain ⟨rfl, rfl⟩ := h; omega
  | k + 1, p, w, h => by
    obtain ⟨p0, w0, z, h1, h2, h3⟩ := h
    have hi := rl_bw_bd k _ _ h1
    have z0 := h2.1
    have z1 := h2.2.1
    omega
theorem rl_cl_un {A hf hb fr u z z' : Int} (h : rl_cl A hf hb fr u z) (h' : rl_cl A hf hb fr u z') : z' = z := by
  obtain ⟨a, b, c, d⟩ := h
  obtain ⟨a', b', c', d'⟩ := h'
  rcases (show z' < z ∨ z' = z ∨ z < z' by omega) with q | q | q
  · exact absurd (c (z' + 1) (by omega) (by omega)) (d' (by omega))
  · exact q
  · exact absurd (c' (z + 1) (by omega) (by omega)) (d (by omega))
theorem rl_bw_un {u : Int} : ∀ (k : Nat) (p w p' w' : Int), rl_bw mem u k p w → rl_bw mem u k p' w' → p' = p ∧ w' = w
  | 0, p, w, p', w', h, h' => ⟨by rw [h.1, h'.1], by rw [h.2, h'.2]⟩
  | k + 1, p, w, p', w', h, h' => by
    obtain ⟨p0, w0, z, h1, h2, h3⟩ := h
    obtain ⟨p0', w0', z', h1', h2', h3'⟩ := h'
    obtain ⟨rfl, rfl⟩ := rl_bw_un k _ _ _ _ h1 h1'
    have := rl_cl_un h2 h2'
    subst this
    omega
theorem rl_bw_ex {u : Int} : ∀ (K : Nat) (p w : Int), rl_bw mem u K p w → ∀ k, k < K → ∃ p0 w0 z, rl_bw mem u k p0 w0 ∧ rl_cl (mem 29 2) (rl_wf mem k) (rl_wb mem k) p0 u z
  | 0, _, _, _, k, hk => by omega
  | K + 1, p, w, h, k, hk => by
    obtain ⟨p0, w0, z, h1, h2, h3⟩ := h
    by_cases e : k = K
    · subst e; exact ⟨p0, w0, z, h1, h2⟩
    · exact rl_bw_ex K _ _ h1 k (by omega)
theorem rl_hi_cl2 {A hf hb gu p0 z h : Int} (hA : 0 ≤ A) (hg : 0 ≤ gu) (h9 : 9 ≤ p0) (hc : rl_cl A hf hb p0 gu z) (hh : rl_hi (fun p => rl_ok A hf hb (p + gu)) h) : (h = -1 ∧ z ≤ p0) ∨ (10 ≤ h ∧ h ≤ p0 ∧ z ≤ p0) ∨ (p0 < z ∧ h = z) := by
  obtain ⟨h1, h2, h3, h4⟩ := hc
  rcases hh with ⟨rfl, q⟩ | ⟨g1, g2, g3, g4⟩
  · refine Or.inl ⟨rfl, ?_⟩
    rcases (show p0 < z ∨ z ≤ p0 by omega) with e | e
    · exact absurd (h3 z e (by omega)) (q z (by omega) h2)
    · exact e
  · rcases (show p0 < z ∨ z ≤ p0 by omega) with e | e
    · refine Or.inr (Or.inr ⟨e, ?_⟩)
      rcases (show h < z ∨ h = z ∨ z < h by omega) with q | q | q
      · exact absurd (h3 z e (by omega)) (g4 z q h2)
      · exact q
      · exact absurd (rl_ok_mono hA (by omega) (by omega : z + 1 + gu ≤ h + gu) g3) (h4 (by omega))
    · refine Or.inr (Or.inl ⟨g1, ?_, e⟩)
      rcases (show h ≤ p0 ∨ p0 < h by omega) with q | q
      · exact q
      · have e' : z = p0 := by omega
        subst e'
        exact absurd (rl_ok_mono hA (by omega) (by omega : z + 1 + gu ≤ h + gu) g3) (h4 (by omega))
theorem rl_p4 {n : Int} (h : 0 ≤ n) (h' : n ≤ 4) : 1 ≤ (2 : Int) ^ (2 * n).toNat ∧ (2 : Int) ^ (2 * n).toNat ≤ 256 := by
  have : n = 0 ∨ n = 1 ∨ n = 2 ∨ n = 3 ∨ n = 4 := by omega
  rcases this with rfl | rfl | rfl | rfl | rfl <;> decide
theorem rl_p4s {n : Int} (h : 0 ≤ n) : (2 : Int) ^ (2 * n).toNat * 4 = (2 : Int) ^ (2 * (n + 1)).toNat := by
  rw [show (2 * (n + 1)).toNat = (2 * n).toNat + 2 by omega, Int.pow_add]; rfl
theorem rl_dg_s {w j : Int} (hj : 0 ≤ j) (hj4 : j ≤ 4) : w / 2 ^ (2 * j).toNat / 4 = w / 2 ^ (2 * (j + 1)).toNat := by
  have : j = 0 ∨ j = 1 ∨ j = 2 ∨ j = 3 ∨ j = 4 := by omega
  rcases this with rfl | rfl | rfl | rfl | rfl
  · rw [show (2 : Int) ^ (2 * (0 : Int)).toNat = 1 from rfl, show (2 : Int) ^ (2 * ((0 : Int) + 1)).toNat = 4 from rfl]; omega
  · rw [show (2 : Int) ^ (2 * (1 : Int)).toNat = 4 from rfl, show (2 : Int) ^ (2 * ((1 : Int) + 1)).toNat = 16 from rfl]; omega
  · rw [show (2 : Int) ^ (2 * (2 : Int)).toNat = 16 from rfl, show (2 : Int) ^ (2 * ((2 : Int) + 1)).toNat = 64 from rfl]; omega
  · rw [show (2 : Int) ^ (2 * (3 : Int)).toNat = 64 from rfl, show (2 : Int) ^ (2 * ((3 : Int) + 1)).toNat = 256 from rfl]; omega
  · rw [show (2 : Int) ^ (2 * (4 : Int)).toNat = 256 from rfl, show (2 : Int) ^ (2 * ((4 : Int) + 1)).toNat = 1024 from rfl]; omega
/-- ways laid by a number -/
def rl_LW (mem mm : am_Mem) (w : Int) : am_Po := fun _ m => (∀ k, k ≠ 9 → m k = mm k) ∧ m 9 0 = mem 36 0 ∧ ∀ c : Nat, (c : Int) < mem 29 4 → m 9 (5 + c) = rl_dg (mem 29 4) w c ∧ m 9 (9 + c) = mem 31 c
def rl_JL (mem mm : am_Mem) (w : Int) : Nat → Int → Int → Int → am_Mem → Prop := fun n v1 v2 v3 m => v1 = w ∧ (-1 ≤ v3 ∧ v3 < mem 29 4) ∧ v2 = w / 2 ^ (2 * (mem 29 4 - 1 - v3)).toNat ∧ (∀ k, k ≠ 9 → m k = mm k) ∧ m 9 0 = mem 36 0 ∧ (∀ c : Nat, (c : Int) < mem 29 4 → (v3 < c → m 9 (5 + c) = rl_dg (mem 29 4) w c) ∧ m 9 (9 + c) = mem 31 c) ∧ n = (v3 + 1).toNat
theorem mp_layWays {w : Int} (hR : rl_R t mem mem) (hU : rl_U mem mm) (hw : 0 ≤ w) : am_Mt l g 139 [.inr (.inl 0), .inl w] mm (rl_LW mem mm w) := by
  have h4 := hR.1.1.2.2.2.1
  obtain ⟨b0, b2, b3, b4, b5, bc, br⟩ := hR.2.1
  obtain ⟨c0, c1, c2, c3, c4, cc⟩ := rl_he hR
  have u8 := hU 8 (by omega) (by omega)
  have u0 := hU 0 (by omega) (by omega)
  have u6 := hU 6 (by omega) (by omega)
  have u16 : mm 0 16 = mem 29 4 := by rw [u0, b4]
  refine fm_X10_layWays (rl_JL mem mm w) (am_cl mp_begin (am_cl (mp_pullAll_t (mem := am_cp mm 8 0 9 0 17) (show 0 ≤ mm 0 16 by omega) (show mm 0 16 ≤ 4 by omega)) ⟨?_, ?_⟩)) ?_
  · show -2147483648 ≤ mm 0 16 - 1 ∧ mm 0 16 - 1 ≤ 2147483647; omega
  · refine ⟨_, rfl, rfl, ?_, ?_, fun k hk => ?_, ?_, fun c hc => ⟨fun h => ?_, ?_⟩, rfl⟩
    · show -1 ≤ mm 0 16 - 1 ∧ mm 0 16 - 1 < _; omega
    · show w = w / 2 ^ (2 * (mem 29 4 - 1 - (mm 0 16 - 1))).toNat
      rw [u16, show (2 * (mem 29 4 - 1 - (mem 29 4 - 1))).toNat = 0 by omega]
      exact (Int.ediv_one w).symm
    · rw [am_st_ne hk, am_cp_k hk]
    · show rw_pull (mm 0 16).toNat (fun c => mm 6 (3 * c + 1)) (am_cp mm 8 0 9 0 17 9) 0 = mem 36 0
      unfold rw_pull
      rw [if_neg (by omega), if_neg (by omega), rl_tr_w (by omega), u8, c0]
    · have h : mm 0 16 - 1 < c := h
      omega
    · show rw_pull (mm 0 16).toNat (fun c => mm 6 (3 * c + 1)) (am_cp mm 8 0 9 0 17 9) (9 + c) = mem 31 c
      rw [(rl_pl_m (n := mm 0 16) (by omega) (by omega)).2.1, u6, (bc c hc).1]
  · rintro n v1 v2 v3 m ⟨rfl, h3, h2, hm, m0, mc, rfl⟩
    have hv2 : 0 ≤ v2 := by
      rw [h2]; exact Int.ediv_nonneg hw (Int.le_of_lt (Int.pow_pos (by decide)))
    refine ⟨fun h => ⟨hm, m0, fun c hc => ⟨(mc c hc).1 (by omega), (mc c hc).2⟩⟩, fun h => ⟨by omega, by omega, fun _ => ⟨by omega, by omega, by omega, (v3 + -1 + 1).toNat, by omega, rfl, rfl, by omega, ?_, fun k hk => ?_, ?_, fun c hc => ⟨fun hv => ?_, ?_⟩, rfl⟩, fun h => by omega⟩⟩
    · rw [h2, rl_dg_s (by omega) (by omega)]
      congr 2
      congr 1
      omega
    · rw [am_up_k hk, hm k hk]
    · rw [am_up_ni (by omega)]; exact m0
    · obtain ⟨d, rfl⟩ : ∃ d : Nat, v3 = d := ⟨v3.toNat, by omega⟩
      rw [rl_k5]
      by_cases e : c = d
      · subst e; rw [am_up_at, h2]; rfl
      · rw [am_up_ni (by omega)]; exact (mc c hc).1 (by omega)
    · rw [am_up_ni (by omega)]; exact (mc c hc).2
theorem rl_LW_hok {w : Int} {m : am_Mem} {z : Int} (hR : rl_R t mem mem) (hU : rl_U mem mm) (h : rl_LW mem mm w z m) : rl_hok (m 0 16) (m 9) := by
  obtain ⟨h1, h2, h3⟩ := h
  have b4 := hR.2.1.2.2.2.1
  have hn := rl_X_now hR.1
  have pc := hR.1.1.2.2.2.2.2.1
  refine ⟨by rw [h2]; exact hn.1, fun c hc => ?_⟩
  rw [h1 0 (by omega), hU 0 (by omega) (by omega), ← b4] at hc
  rw [(h3 c hc).2]
  exact ⟨trivial, (pc c hc).2.1, trivial⟩
theorem rl_LW_mh {w v : Int} {m : am_Mem} {z : Int} (hR : rl_R t mem mem) (hU : rl_U mem mm) (h : rl_LW mem mm w z m) : rl_mh_t m 0 v ↔ rl_ok (mem 29 2) (rl_wf mem w) (rl_wb mem w) v := by
  obtain ⟨h1, h2, h3⟩ := h
  have b4 := hR.2.1.2.2.2.1
  have b2 := hR.2.1.2.1
  have e0 : m 0 16 = mem 29 4 := by rw [h1 0 (by omega), hU 0 (by omega) (by omega), b4]
  have e5 : m 5 1 = mem 29 2 := by rw [h1 5 (by omega), hU 5 (by omega) (by omega), b2]
  unfold rl_mh_t
  have e1 : rl_hf (m 0 16).toNat (m 9 0) (fun c => m 9 (5 + c)) (fun c => m 9 (9 + c)) = rl_wf mem w := by
    unfold rl_hf rl_wf
    rw [e0, h2]
    congr 1
    refine rl_sm_cg _ (fun c hc => ?_)
    show rl_cf (m 9 (5 + c)) (m 9 (9 + c)) = _
    rw [(h3 c (by omega)).1, (h3 c (by omega)).2]
  have e2 : rl_hb (m 0 16).toNat (m 9 0) (fun c => m 9 (5 + c)) (fun c => m 9 (9 + c)) = rl_wb mem w := by
    unfold rl_hb rl_wb
    rw [e0, h2]
    congr 1
    refine rl_sm_cg _ (fun c hc => ?_)
    show rl_cb (m 9 (5 + c)) (m 9 (9 + c)) = _
    rw [(h3 c (by omega)).1, (h3 c (by omega)).2]
  rw [e1, e2, e5, Int.add_zero]
def rl_J73 (mem : am_Mem) (u a N : Int) : Nat → Int → Int → Int → Int → Int → Int → am_Mem → Prop := fun n v1 v2 v3 v4 v5 v6 m => v1 = u ∧ v2 = a ∧ v3 = N ∧ rl_U mem m ∧ ∃ (k : Nat) (p : Int), v6 = k ∧ (k : Int) ≤ N ∧ rl_bw mem u k p v4 ∧ (k = 0 → v5 = -2) ∧ (¬ k = 0 → (p = 9 ∧ v5 = -1) ∨ (¬ p = 9 ∧ v5 = p)) ∧ n = (N - k).toNat
def rl_J44 (mem : am_Mem) (u a : Int) : Nat → Int → Int → Int → Int → am_Mem → Prop := fun n v1 v2 v3 v4 m => v1 = u ∧ v2 = a ∧ m = mem ∧ (0 ≤ v4 ∧ v4 ≤ mem 29 4) ∧ v3 = 2 ^ (2 * v4).toNat ∧ n = 300 + (4 - v4).toNat
theorem mp_where {u a z w p : Int} (hR : rl_R t mem mem) (ht : ¬ mem 29 0 = 0) (hu : 0 ≤ u ∧ u ≤ 30) (ha : a = -1 ∨ (0 ≤ a ∧ a < mem 29 4)) (hb : rl_bw mem u ((2 : Int) ^ (2 * mem 29 4).toNat).toNat p w) (h1 : a = -1 → (p = 9 ∧ z = -1) ∨ (¬ p = 9 ∧ z = p)) (h2 : ¬ a = -1 → z = rl_dg (mem 29 4) w a.toNat) : am_Mt l g 140 [.inr (.inl 0), .inl u, .inl a] mem (rl_Q2 t z) := by
  have R1 := rl_R1 hR
  have h4 := hR.1.1.2.2.2.1
  have p2 := hR.1.1.2.1
  have b4 := hR.2.1.2.2.2.1
  have b0 := hR.2.1.1
  have hN := rl_p4 h4.1 h4.2
  have st : ∃ n : Nat, (0 : Nat) = 0 ∧ rl_J44 mem u a n u a 1 0 mem := ⟨_, rfl, rfl, rfl, rfl, by omega, rfl, rfl⟩
  generalize hNN : (2 : Int) ^ (2 * mem 29 4).toNat = N at *
  refine fm_X10_where (rl_J44 mem u a) (rl_J73 mem u a N) ⟨fun e => am_cbn (mp_in u 0 30) (fun _ => ⟨fun _ => st, fun h => by omega⟩) (fun h => absurd hu h), fun e => am_cbn (mp_isCord (by omega) (by omega)) (fun _ => am_cbn (mp_in u 0 30) (fun _ => ⟨fun _ => st, fun h => by omega⟩) (fun h => absurd hu h)) (fun h => absurd ⟨by omega, by omega⟩ h)⟩ ?_ ?_
  · rintro n v1 v2 v3 v4 m ⟨rfl, rfl, rfl, hv4, rfl, rfl⟩
    refine ⟨fun h => ⟨(N - (0 : Nat)).toNat, by omega, rfl, rfl, rfl, ?_, fun _ _ _ => rfl, 0, 9, rfl, by omega, ⟨rfl, rfl⟩, fun _ => rfl, fun h => absurd rfl h, rfl⟩, fun h => ⟨?_, by omega, 300 + (4 - (v4 + 1)).toNat, by omega, rfl, rfl, rfl, rfl, by omega, rl_p4s hv4.1, rfl⟩⟩
    · rw [show v4 = m 29 4 by omega]; exact hNN
    · have := rl_p4 hv4.1 (show v4 ≤ 4 by omega); omega
  · rintro n v1 v2 v3 v4 v5 v6 m ⟨rfl, rfl, rfl, hU, k, q, rfl, hk, hbk, k0, k1, rfl⟩
    have hbb := rl_bw_bd _ _ _ hbk
    refine ⟨fun h => ?_, fun h => ?_⟩
    · have ek : v3.toNat = k := by omega
      rw [ek] at hb
      obtain ⟨rfl, rfl⟩ := rl_bw_un _ _ _ _ _ hb hbk
      refine ⟨fun e => am_cq (mp_layWays hR hU hbb.2) (fun z' m' hL => ⟨by omega, by omega, ?_, ?_⟩), fun e => ⟨?_, rl_U_R R1 hU⟩⟩
      · obtain ⟨d, hd⟩ : ∃ d : Nat, v2 = d := ⟨v2.toNat, by omega⟩
        rw [h2 e, hd, Int.toNat_natCast, rl_k5]
        exact (hL.2.2 d (by omega)).1
      · exact rl_U_R R1 (fun j j1 j2 => by rw [hL.1 j j1, hU j j1 j2])
      · have := h1 e
        have := k1 (by omega)
        omega
    · refine am_cq (mp_layWays hR hU (w := k) (by omega)) (fun z' m' hL => ?_)
      have hU' : rl_U mem m' := fun j j1 j2 => by rw [hL.1 j j1, hU j j1 j2]
      refine am_cq (mp_highestBy_t (rl_U_MP hR hU') (rl_LW_hok hR hU hL) hu.1 hu.2 (by omega) (by omega)) ?_
      rintro z17 m18 ⟨rfl, hz17⟩
      have e : (fun p => rl_mh_t m18 0 (p + v1)) = fun p => rl_ok (mem 29 2) (rl_wf mem k) (rl_wb mem k) (p + v1) := by
        funext p; exact propext (rl_LW_mh hR hU hL)
      rw [e] at hz17
      obtain ⟨p0, w0, zc, g1, g2⟩ := rl_bw_ex _ _ _ hb k (by omega)
      obtain ⟨rfl, rfl⟩ := rl_bw_un _ _ _ _ _ g1 hbk
      have hcl := rl_hi_cl2 p2.1 hu.1 (by omega) g2 hz17
      have z70 := g2.2.1
      have z9 := g2.1
      have go : ∀ (b n : Int) (q' : Int), ((zc ≤ q ∧ q' = q ∧ b = v4) ∨ (q < zc ∧ q' = zc ∧ b = (k : Int))) → ((q' = 9 ∧ n = -1) ∨ (¬ q' = 9 ∧ n = q')) → ∃ n' : Nat, n' < (v3 - k).toNat ∧ (0 : Nat) = 0 ∧ rl_J73 mem v1 v2 v3 n' v1 v2 v3 b n ((k : Int) + 1) m18 := fun b n q' e1 e2 =>
        ⟨(v3 - ((k + 1 : Nat) : Int)).toNat, by omega, rfl, rfl, rfl, rfl, hU', k + 1, q', by omega, by omega, ⟨q, v4, zc, hbk, g2, e1⟩, fun h => by omega, fun _ => e2, rfl⟩
      have hv4 : k = 0 → v4 = 0 ∧ q = 9 := fun e => by
        subst e; exact ⟨hbk.2, hbk.1⟩
      refine ⟨fun h5 => ⟨fun h6 => ⟨by omega, go v4 v5 q ?_ ?_⟩, fun h6 => by omega⟩, fun h5 => ⟨fun h6 => by omega, fun h6 => ⟨by omega, ?_⟩⟩⟩
      · by_cases ek : k = 0
        · have := k0 ek; omega
        · have := k1 ek; omega
      · by_cases ek : k = 0
        · have := k0 ek; omega
        · exact k1 ek
      · by_cases ek : k = 0
        · have e0 := hv4 ek
          rcases hcl with c | c | c
          · exact go _ _ q (by omega) (by omega)
          · omega
          · exact go _ _ zc (by omega) (by omega)
        · have := k1 ek
          exact go _ _ zc (by omega) (by omega)
theorem op_where {u a : Int} (hR : rl_R t mem mem) : am_Mt l g 66 [.inr (.inl 17), .inl u, .inl a] mem (rl_Q1 l g 140 [.inr (.inl 0), .inl u, .inl a] t) := by
  have R1 := rl_R1 hR
  have hX := hR.1
  have h4 := hX.1.2.2.2.1
  have p2 := hX.1.2.1
  have pc := hX.1.2.2.2.2.2.1
  have b4 := hR.2.1.2.2.2.1
  have b0 := hR.2.1.1
  have hn := rl_X_now hX
  have hN := rl_p4 h4.1 h4.2
  have mno : (a = -1 ∨ (0 ≤ a ∧ a < mem 29 4)) → ¬ (0 ≤ u ∧ u ≤ 30) → am_Mt l g 140 [.inr (.inl 0), .inl u, .inl a] mem (rl_Q2 t (-1000000002)) := fun ha hu =>
    fm_X10_where (fun _ _ _ _ _ _ => False) (fun _ _ _ _ _ _ _ _ => False) ⟨fun e => am_cbn (mp_in u 0 30) (fun h => absurd h hu) (fun _ => ⟨rfl, R1⟩), fun e => am_cbn (mp_isCord (by omega) (by omega)) (fun _ => am_cbn (mp_in u 0 30) (fun h => absurd h hu) (fun _ => ⟨rfl, R1⟩)) (fun h => absurd ⟨by omega, by omega⟩ h)⟩ (fun _ _ _ _ _ _ h => h.elim) (fun _ _ _ _ _ _ _ _ h => h.elim)
  have mno2 : (a = -1 ∨ (0 ≤ a ∧ a < mem 29 4)) → (0 ≤ u ∧ u ≤ 30) → mem 29 0 = 0 → am_Mt l g 140 [.inr (.inl 0), .inl u, .inl a] mem (rl_Q2 t (-1000000003)) := fun ha hu ht =>
    fm_X10_where (fun _ _ _ _ _ _ => False) (fun _ _ _ _ _ _ _ _ => False) ⟨fun e => am_cbn (mp_in u 0 30) (fun _ => ⟨fun h => by omega, fun _ => ⟨rfl, R1⟩⟩) (fun h => absurd hu h), fun e => am_cbn (mp_isCord (by omega) (by omega)) (fun _ => am_cbn (mp_in u 0 30) (fun _ => ⟨fun h => by omega, fun _ => ⟨rfl, R1⟩⟩) (fun h => absurd hu h)) (fun h => absurd ⟨by omega, by omega⟩ h)⟩ (fun _ _ _ _ _ _ h => h.elim) (fun _ _ _ _ _ _ _ _ h => h.elim)
  refine fm_X9_where (fun n v1 v2 v3 v4 v5 v6 m => v1 = u ∧ v2 = a ∧ m = mem ∧ (a = -1 ∨ (0 ≤ a ∧ a < mem 29 4)) ∧ (0 ≤ u ∧ u ≤ 30) ∧ ¬ mem 29 0 = 0 ∧ v5 = 2 ^ (2 * mem 29 4).toNat ∧ ∃ k : Nat, v6 = k ∧ (k : Int) ≤ v5 ∧ rl_bw mem u k v3 v4 ∧ n = (v5 - k).toNat) ⟨fun e => am_cbn (sp_isGust u) (fun hu => ⟨fun ht => ⟨by omega, by omega, _, rfl, rfl, rfl, rfl, Or.inl e, hu, ht, rfl, 0, rfl, by omega, ⟨rfl, rfl⟩, rfl⟩, fun ht => mno2 (Or.inl e) hu ht⟩) (fun hu => mno (Or.inl e) hu), fun e => am_cbn (sp_hasCord h4.2) (fun ha => am_cbn (sp_isGust u) (fun hu => ⟨fun ht => ⟨by omega, by omega, _, rfl, rfl, rfl, rfl, Or.inr ha, hu, ht, rfl, 0, rfl, by omega, ⟨rfl, rfl⟩, rfl⟩, fun ht => mno2 (Or.inr ha) hu ht⟩) (fun hu => mno (Or.inr ha) hu)) (fun ha => ?_)⟩ ?_
  · exact fm_X10_where (fun _ _ _ _ _ _ => False) (fun _ _ _ _ _ _ _ _ => False) ⟨fun h => absurd h e, fun _ => am_cbn (mp_isCord (by omega) (by omega)) (fun h => absurd ⟨h.1, by omega⟩ ha) (fun _ => ⟨rfl, R1⟩)⟩ (fun _ _ _ _ _ _ h => h.elim) (fun _ _ _ _ _ _ _ _ h => h.elim)
  · rintro n v1 v2 v3 v4 v5 v6 m ⟨rfl, rfl, rfl, ha, hu, ht, rfl, k, rfl, hk, hb, rfl⟩
    have hbb := rl_bw_bd _ _ _ hb
    refine ⟨fun h => ?_, fun h => ⟨by omega, am_cl (sp_pulledFront h4.1 h4.2 (by omega) (fun c hc => (pc c hc).2.1)) ?_⟩⟩
    · have ek : k = ((2 : Int) ^ (2 * m 29 4).toNat).toNat := by omega
      rw [ek] at hb
      refine ⟨fun e => ⟨fun h3 => ?_, fun h3 => ?_⟩, fun e => am_cl (sp_wayIn h4.2 hbb.2 (by omega) (by omega)) ?_⟩
      · exact mp_where hR ht hu ha hb (fun _ => Or.inr ⟨h3, rfl⟩) (fun q => absurd e q)
      · exact mp_where hR ht hu ha hb (fun _ => Or.inl ⟨h3, rfl⟩) (fun q => absurd e q)
      · refine mp_where hR ht hu ha hb (fun q => absurd q e) (fun _ => ?_)
        unfold rl_dg
        rw [show ((v2.toNat : Nat) : Int) = v2 by omega]
    · have s1 := rl_sm_bd (f := fun c => rl_cf ((k : Int) / 2 ^ (2 * (m 29 4 - 1 - (c : Int))).toNat % 4) (m 31 c)) (K := 99) (m 29 4).toNat (fun c hc => (rl_cf_bd (pc c (by omega)).2.1.1 (pc c (by omega)).2.1.2).1)
      have s2 := rl_sm_bd (f := fun c => rl_cb ((k : Int) / 2 ^ (2 * (m 29 4 - 1 - (c : Int))).toNat % 4) (m 31 c)) (K := 99) (m 29 4).toNat (fun c hc => (rl_cf_bd (pc c (by omega)).2.1.1 (pc c (by omega)).2.1.2).2)
      refine ⟨by omega, by omega, by omega, am_cl (sp_pulledBack h4.1 h4.2 (by omega) (fun c hc => (pc c hc).2.1)) ⟨by omega, am_cq (sp_climb p2.1 p2.2 (by omega) (by omega) hu.1 hu.2) ?_⟩⟩
      rintro z m' ⟨rfl, hz⟩
      refine ⟨fun h1 => ⟨by omega, ((2 : Int) ^ (2 * m' 29 4).toNat - ((k + 1 : Nat) : Int)).toNat, by omega, rfl, rfl, rfl, rfl, ha, hu, ht, rfl, k + 1, by omega, by omega, ⟨v3, v4, z, hb, hz, Or.inl ⟨h1, rfl, rfl⟩⟩, rfl⟩, fun h1 => ⟨by omega, ((2 : Int) ^ (2 * m' 29 4).toNat - ((k + 1 : Nat) : Int)).toNat, by omega, rfl, rfl, rfl, rfl, ha, hu, ht, rfl, k + 1, by omega, by omega, ⟨v3, v4, z, hb, hz, Or.inr ⟨h1, rfl, rfl⟩⟩, rfl⟩⟩
end OPJ
