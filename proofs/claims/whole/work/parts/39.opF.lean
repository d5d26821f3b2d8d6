section OPF
variable {l : Launch} {g : am_G} {mem : am_Mem} {t : Int}
theorem rl_tb_s {k t s gv : Int} (hg : 0 ≤ gv) (hk : 0 ≤ k) : rl_tb 1 (rl_tb k t s gv) (s + k) gv = rl_tb (k + 1) t s gv := by
  unfold rl_tb
  have e : k + 1 + min (k + 1) (max 0 (4 - s)) = (k + min k (max 0 (4 - s))) + (1 + min 1 (max 0 (4 - (s + k)))) := by omega
  have hB : 0 ≤ 1 + min 1 (max 0 (4 - (s + k))) := by omega
  have e' : gv * (k + 1 + min (k + 1) (max 0 (4 - s))) = gv * (k + min k (max 0 (4 - s))) + gv * (1 + min 1 (max 0 (4 - (s + k)))) := by rw [e]; exact Int.mul_add _ _ _
  rw [e']
  clear e e'
  have h2 := Int.mul_nonneg hg hB
  generalize gv * (k + min k (max 0 (4 - s))) = A at *
  generalize gv * (1 + min 1 (max 0 (4 - (s + k)))) = B at *
  omega
/-- a row, k miles on -/
def rw_sl (n : Nat) (gv : Nat → Int) (k : Int) (w : Nat → Int) : Nat → Int := fun i => if 9 ≤ i ∧ i < 9 + n then rl_tb k (w i) (w (i + 4)) (gv (i - 9)) else if 13 ≤ i ∧ i < 13 + n then w i + k else w i
theorem rw_sl_0 {n : Nat} {gv w : Nat → Int} (hw : ∀ i, 9 ≤ i → i < 9 + n → 0 ≤ w i) : rw_sl n gv 0 w = w := by
  funext i
  unfold rw_sl
  split
  · rename_i h; exact rl_tb_0 (hw i h.1 h.2)
  · split
    · omega
    · rfl
theorem rw_sl_s {n : Nat} {gv w : Nat → Int} {k : Int} (hn : n ≤ 4) (hk : 0 ≤ k) (hg : ∀ c, c < n → 0 ≤ gv c) : rw_slk n gv (rw_sl n gv k w) = rw_sl n gv (k + 1) w := by
  funext i
  unfold rw_slk rw_sl
  split
  · rename_i h
    rw [if_neg (by omega), if_pos (by omega)]
    exact rl_tb_s (hg _ (by omega)) hk
  · split
    · omega
    · rfl
/-- what is tried, k miles on -/
def rl_tr (mem : am_Mem) (k : Int) : am_Mem := am_st mem 9 (rw_sl (mem 0 16).toNat (fun c => mem 6 (3 * c + 2)) k (am_cp mem 8 0 9 0 17 9))
theorem rl_tr_w {i : Nat} (hi : i < 17) : am_cp mem 8 0 9 0 17 9 i = mem 8 i := by
  rw [am_cp_in (by omega) (by omega), show 0 + (i - 0) = i by omega]
theorem am_cp_st {a sp b dp n : Nat} : am_cp mem a sp b dp n = am_st mem b (am_cp mem a sp b dp n b) := by
  funext k i; unfold am_st
  split
  · rename_i h; rw [h]
  · rename_i h; exact am_cp_ne h
theorem rl_tr_0 (hR : rl_R t mem mem) : am_cp mem 8 0 9 0 17 = rl_tr mem 0 := by
  have hrk := rl_R_rok hR
  have h4 := (rl_R_MP hR).2.2.2.1
  unfold rl_tr
  rw [rw_sl_0, ← am_cp_st]
  intro i h1 h2
  rw [rl_tr_w (by omega)]
  have := (hrk.2.2.2.2.2 (i - 9) (by omega)).2.1.1
  rw [show 9 + (i - 9) = i by omega] at this
  exact this
theorem rl_tr_c {k : Int} {c : Nat} (hR : rl_R t mem mem) (hc : (c : Int) < mem 29 4) : rl_tr mem k 9 (5 + c) = mem 37 c ∧ rl_tr mem k 9 (9 + c) = rl_tb k (mem 38 c) (mem 39 c) (mem 32 c) ∧ rl_tr mem k 9 (13 + c) = mem 39 c + k := by
  obtain ⟨c0, c1, c2, c3, c4, cc⟩ := rl_he hR
  obtain ⟨g1, g2, g3⟩ := cc c hc
  have b4 := hR.2.1.2.2.2.1
  have bc := hR.2.1.2.2.2.2.2.1
  have h4 := hR.1.1.2.2.2.1
  unfold rl_tr
  rw [am_st_at]
  unfold rw_sl
  refine ⟨?_, ?_, ?_⟩
  · rw [if_neg (by omega), if_neg (by omega), rl_tr_w (by omega)]; exact g1.symm
  · rw [if_pos (by omega), rl_tr_w (by omega), rl_tr_w (by omega), show 9 + c + 4 = 13 + c by omega, ← g2, ← g3]
    show rl_tb k _ _ (mem 6 (3 * (9 + c - 9) + 2)) = _
    rw [show 9 + c - 9 = c by omega, ← (bc c hc).2]
  · rw [if_neg (by omega), if_pos (by omega), rl_tr_w (by omega), ← g3]
theorem rl_tr_k0 {k : Int} (hR : rl_R t mem mem) : rl_tr mem k 9 0 = mem 36 0 := by
  have c0 := (rl_he hR).1
  unfold rl_tr
  rw [am_st_at]
  unfold rw_sl
  rw [if_neg (by omega), if_neg (by omega), rl_tr_w (by omega), c0]
theorem rl_tr_R {k : Int} (hR : rl_R t mem mem) : rl_R t (rl_tr mem k) (rl_tr mem k) :=
  rl_R_fr hR (fun k h1 h2 h3 => am_st_ne (by omega)) (fun k h1 h2 h3 h4 h5 h6 => am_st_ne h6) (fun j _ => rfl)
theorem mp_slk_tr {k : Int} (hR : rl_R t mem mem) (hk : 0 ≤ k) (hk' : k ≤ 200) : am_Mt l g 119 [.inr (.inl 0), .inr (.inl 9)] (rl_tr mem k) (am_vq 0 (rl_tr mem (k + 1))) := by
  have hMP := rl_R_MP hR
  have hX := hR.1
  have pc := hX.1.2.2.2.2.2.1
  have h4 := hX.1.2.2.2.1
  have b4 := hR.2.1.2.2.2.1
  have ha := rl_am_bd hX.1
  have hn := rl_X_now hX
  have := mp_slacken_t (l := l) (g := g) (mem := rl_tr mem k) hMP (fun c hc => by
    have hc : (c : Int) < mem 0 16 := hc
    obtain ⟨e1, e2, e3⟩ := rl_tr_c (k := k) hR (c := c) (by omega)
    have g1 := rl_X_c hX (c := c) (by omega)
    have g2 := pc c (by omega)
    rw [e2, e3]
    exact ⟨rl_tb_bd g1.2.1.1 g1.2.1.2 g2.2.2.1 hk, by omega⟩)
  have e : am_st (rl_tr mem k) 9 (rw_slk (rl_tr mem k 0 16).toNat (fun c => rl_tr mem k 6 (3 * c + 2)) (rl_tr mem k 9)) = rl_tr mem (k + 1) := by
    show am_st (am_st mem 9 _) 9 (rw_slk (mem 0 16).toNat (fun c => mem 6 (3 * c + 2)) _) = _
    rw [am_st_st]
    unfold rl_tr
    rw [am_st_at, rw_sl_s (by omega) hk]
    intro c hc
    exact (hMP.2.2.2.2.2.1 c (by omega)).2.1
  rw [e] at this
  exact this
theorem op_slack {c n : Int} (hR : rl_R t mem mem) : am_Mt l g 62 [.inr (.inl 17), .inl c, .inl n] mem (rl_Q1 l g 134 [.inr (.inl 0), .inl c, .inl n] t) := by
  have R1 := rl_R1 hR
  have hX := hR.1
  have pc := hX.1.2.2.2.2.2.1
  have h4 := hX.1.2.2.2.1
  have b4 := hR.2.1.2.2.2.1
  have ha := rl_am_bd hX.1
  have hn := rl_X_now hX
  refine fm_X9_slack (am_cbn (sp_hasCord h4.2) (fun h1 => am_cbn (sp_within n 0 99) (fun h2 => ?_) (fun h2 => ?_)) (fun h1 => ?_))
  · obtain ⟨d, rfl⟩ : ∃ d : Nat, c = d := ⟨c.toNat, by omega⟩
    rw [Int.toNat_natCast]
    have g1 := rl_X_c hX h1.2
    have g2 := pc d h1.2
    refine ⟨by omega, by omega, by omega, am_cl (sp_tightBehind h2.1 (by omega) g1.2.1.1 g1.2.1.2 g1.2.2.1 (by omega) g2.2.2.1 g2.2.2.2) ?_⟩
    refine fm_X10_slack (fun k v1 v2 v3 m => v1 = d ∧ v2 = n ∧ 0 ≤ v3 ∧ v3 ≤ n ∧ m = rl_tr mem v3 ∧ k = (n - v3).toNat) (am_cbn (mp_isCord (by omega) (by omega)) (fun _ => am_cbn (mp_in n 0 99) (fun _ => am_cl mp_begin ⟨_, rfl, rfl, rfl, by omega, by omega, rl_tr_0 hR, rfl⟩) (fun h => absurd h2 h)) (fun h => absurd ⟨h1.1, by omega⟩ h)) ?_
    rintro k v1 v2 v3 m ⟨rfl, rfl, h5, h6, rfl, rfl⟩
    refine ⟨fun h => ⟨by omega, by omega, ?_, rl_tr_R R1⟩, fun h => am_cl (mp_slk_tr hR h5 (by omega)) ⟨by omega, (v2 - (v3 + 1)).toNat, by omega, rfl, rfl, rfl, by omega, by omega, rfl, rfl⟩⟩
    rw [rl_k9, (rl_tr_c hR h1.2).2.1, show v3 = v2 by omega]
  · exact fm_X10_slack (fun k v1 v2 v3 m => False) (am_cbn (mp_isCord (by omega) (by omega)) (fun _ => am_cbn (mp_in n 0 99) (fun h => absurd h h2) (fun _ => ⟨rfl, R1⟩)) (fun h => absurd ⟨h1.1, by omega⟩ h)) (fun k v1 v2 v3 m h => h.elim)
  · exact fm_X10_slack (fun k v1 v2 v3 m => False) (am_cbn (mp_isCord (by omega) (by omega)) (fun h => absurd ⟨h.1, by omega⟩ h1) (fun _ => ⟨rfl, R1⟩)) (fun k v1 v2 v3 m h => h.elim)
/-- it holds k miles on -/
def rl_hk (mem : am_Mem) (v k : Int) : Prop := rl_ok (mem 29 2) (rl_hf (mem 29 4).toNat (mem 36 0) (mem 37) (fun c => rl_tb k (mem 38 c) (mem 39 c) (mem 32 c))) (rl_hb (mem 29 4).toNat (mem 36 0) (mem 37) (fun c => rl_tb k (mem 38 c) (mem 39 c) (mem 32 c))) v
theorem rl_tr_mh {k v : Int} (hR : rl_R t mem mem) : rl_mh_t (rl_tr mem k) 0 v ↔ rl_hk mem v k := by
  have b2 := hR.2.1.2.1
  have b4 := hR.2.1.2.2.2.1
  have h4 := hR.1.1.2.2.2.1
  have e1 : rl_hf (rl_tr mem k 0 16).toNat (rl_tr mem k 9 0) (fun c => rl_tr mem k 9 (5 + c)) (fun c => rl_tr mem k 9 (9 + c)) = rl_hf (mem 29 4).toNat (mem 36 0) (mem 37) (fun c => rl_tb k (mem 38 c) (mem 39 c) (mem 32 c)) := by
    show rl_hf (mem 0 16).toNat _ _ _ = _
    rw [rl_tr_k0 hR, ← b4]
    unfold rl_hf
    congr 1
    refine rl_sm_cg _ (fun c hc => ?_)
    obtain ⟨g1, g2, g3⟩ := rl_tr_c (k := k) hR (c := c) (by omega)
    show rl_cf (rl_tr mem k 9 (5 + c)) (rl_tr mem k 9 (9 + c)) = _
    rw [g1, g2]
  have e2 : rl_hb (rl_tr mem k 0 16).toNat (rl_tr mem k 9 0) (fun c => rl_tr mem k 9 (5 + c)) (fun c => rl_tr mem k 9 (9 + c)) = rl_hb (mem 29 4).toNat (mem 36 0) (mem 37) (fun c => rl_tb k (mem 38 c) (mem 39 c) (mem 32 c)) := by
    show rl_hb (mem 0 16).toNat _ _ _ = _
    rw [rl_tr_k0 hR, ← b4]
    unfold rl_hb
    congr 1
    refine rl_sm_cg _ (fun c hc => ?_)
    obtain ⟨g1, g2, g3⟩ := rl_tr_c (k := k) hR (c := c) (by omega)
    show rl_cb (rl_tr mem k 9 (5 + c)) (rl_tr mem k 9 (9 + c)) = _
    rw [g1, g2]
  unfold rl_mh_t rl_hk
  rw [e1, e2, Int.add_zero, show rl_tr mem k 5 1 = mem 5 1 from rfl, b2]
theorem rl_tr_hok {k : Int} (hR : rl_R t mem mem) (hk : 0 ≤ k) : rl_hok (rl_tr mem k 0 16) (rl_tr mem k 9) := by
  have hX := hR.1
  have pc := hX.1.2.2.2.2.2.1
  have b4 := hR.2.1.2.2.2.1
  have hn := rl_X_now hX
  refine ⟨by rw [rl_tr_k0 hR]; exact hn.1, fun c hc => ?_⟩
  have hc : (c : Int) < mem 0 16 := hc
  obtain ⟨e1, e2, e3⟩ := rl_tr_c (k := k) hR (c := c) (by omega)
  have g1 := rl_X_c hX (c := c) (by omega)
  have g2 := pc c (by omega)
  rw [e2]
  exact ⟨trivial, rl_tb_bd g1.2.1.1 g1.2.1.2 g2.2.2.1 hk, trivial⟩
def rl_cnt (P : Int → Prop) (z : Int) : Prop := 0 ≤ z ∧ z ≤ 99 ∧ (∀ j, 0 ≤ j → j < z → P j) ∧ (z < 99 → ¬ P z)
theorem rl_cnt_un {P : Int → Prop} {z z' : Int} (h : rl_cnt P z) (h' : rl_cnt P z') : z' = z := by
  obtain ⟨a, b, c, d⟩ := h
  obtain ⟨a', b', c', d'⟩ := h'
  rcases (show z' < z ∨ z' = z ∨ z < z' by omega) with q | q | q
  · exact absurd (c z' a' q) (d' (by omega))
  · exact q
  · exact absurd (c' z a q) (d (by omega))
theorem op_far {p u : Int} (hR : rl_R t mem mem) : am_Mt l g 63 [.inr (.inl 17), .inl p, .inl u] mem (rl_Q1 l g 135 [.inr (.inl 0), .inl p, .inl u] t) := by
  have R1 := rl_R1 hR
  have hX := hR.1
  have hMP := rl_R_MP hR
  have p2 := hX.1.2.1
  have b0 := hR.2.1.1
  have key : ∀ z, (10 ≤ p ∧ p ≤ 70) → (0 ≤ u ∧ u ≤ 30) → ¬ mem 29 0 = 0 → rl_cnt (rl_hk mem (p + u)) z → am_Mt l g 135 [.inr (.inl 0), .inl p, .inl u] mem (rl_Q2 t z) := by
    intro z h1 h2 h3 hz
    refine fm_X10_far (fun k v1 v2 v3 m => v1 = p ∧ v2 = u ∧ 0 ≤ v3 ∧ v3 ≤ 99 ∧ m = rl_tr mem v3 ∧ (∀ j, 0 ≤ j → j < v3 → rl_hk mem (p + u) j) ∧ k = (99 - v3).toNat) (am_cbe (mp_in p 10 70) (fun _ => am_cbn (mp_in u 0 30) (fun _ => ⟨fun _ => am_cl mp_begin ⟨_, rfl, rfl, rfl, by omega, by omega, rl_tr_0 hR, fun j _ _ => by omega, rfl⟩, fun h => by omega⟩) (fun h => absurd h2 h)) (fun h => absurd h1 h)) ?_
    rintro k v1 v2 v3 m ⟨rfl, rfl, h5, h6, rfl, h7, rfl⟩
    refine ⟨fun h => ⟨rl_cnt_un hz ⟨h5, h6, h7, fun q => by omega⟩, rl_tr_R R1⟩, fun h => am_cbe (mp_holds_t (mem := rl_tr mem v3) hMP (rl_tr_hok hR h5) (by omega) (by omega)) (fun hh => am_cl (mp_slk_tr hR h5 (by omega)) ⟨by omega, (99 - (v3 + 1)).toNat, by omega, rfl, rfl, rfl, by omega, by omega, rfl, fun j j1 j2 => ?_, rfl⟩) (fun hh => ⟨rl_cnt_un hz ⟨h5, h6, h7, fun _ q => hh ((rl_tr_mh hR).mpr q)⟩, rl_tr_R R1⟩)⟩
    by_cases e : j = v3
    · subst e; exact (rl_tr_mh hR).mp hh
    · exact h7 j j1 (by omega)
  refine fm_X9_far (fun k v1 v2 v3 v4 v5 m => m = mem ∧ (10 ≤ p ∧ p ≤ 70) ∧ (0 ≤ u ∧ u ≤ 30) ∧ ¬ mem 29 0 = 0 ∧ v3 = rl_F (mem 29 2) (p + u) ∧ v4 = rl_Bk (mem 29 2) (p + u) ∧ 0 ≤ v5 ∧ v5 ≤ 99 ∧ (∀ j, 0 ≤ j → j < v5 → rl_hk mem (p + u) j) ∧ k = (99 - v5).toNat) (am_cbe (sp_isPace p) (fun h1 => am_cbn (sp_isGust u) (fun h2 => ⟨fun h3 => am_cl (sp_liftFront p2.1 p2.2 (by omega) (by omega)) (am_cl (sp_liftBack p2.1 p2.2 (by omega) (by omega)) ⟨_, rfl, rfl, h1, h2, h3, rfl, rfl, by omega, by omega, fun j _ _ => by omega, rfl⟩), fun h3 => ?_⟩) (fun h2 => ?_)) (fun h1 => ?_)) ?_
  · exact fm_X10_far (fun k v1 v2 v3 m => False) (am_cbe (mp_in p 10 70) (fun _ => am_cbn (mp_in u 0 30) (fun _ => ⟨fun h => by omega, fun _ => ⟨rfl, R1⟩⟩) (fun h => absurd h2 h)) (fun h => absurd h1 h)) (fun k v1 v2 v3 m h => h.elim)
  · exact fm_X10_far (fun k v1 v2 v3 m => False) (am_cbe (mp_in p 10 70) (fun _ => am_cbn (mp_in u 0 30) (fun h => absurd h h2) (fun _ => ⟨rfl, R1⟩)) (fun h => absurd h1 h)) (fun k v1 v2 v3 m h => h.elim)
  · exact fm_X10_far (fun k v1 v2 v3 m => False) (am_cbe (mp_in p 10 70) (fun h => absurd h h1) (fun _ => ⟨rfl, R1⟩)) (fun k v1 v2 v3 m h => h.elim)
  · rintro k v1 v2 v3 v4 v5 m ⟨rfl, h1, h2, h3, rfl, rfl, h5, h6, h7, rfl⟩
    refine ⟨fun h => ?_, fun h => am_cl (sp_holdFront_n hX h5 (by omega)) ⟨fun h8 => ?_, fun h8 => am_cl (sp_holdBack_n hX h5 (by omega)) ⟨fun h9 => ⟨by omega, (99 - (v5 + 1)).toNat, by omega, rfl, rfl, h1, h2, h3, rfl, rfl, by omega, by omega, fun j j1 j2 => ?_, rfl⟩, fun h9 => ?_⟩⟩⟩
    · exact key _ h1 h2 h3 ⟨by omega, by omega, fun j j1 j2 => h7 j j1 (by omega), fun q => by omega⟩
    · exact key _ h1 h2 h3 ⟨h5, h6, h7, fun _ q => by have := q.1; omega⟩
    · by_cases e : j = v5
      · subst e; exact ⟨h8, h9⟩
      · exact h7 j j1 (by omega)
    · exact key _ h1 h2 h3 ⟨h5, h6, h7, fun _ q => by have := q.2; omega⟩
def rl_kn (a : Int) : Nat → Int
  | 0 => 1000000000
  | n + 1 => rl_kn a n * (100 - a) / 100
theorem rl_kn_bd {a : Int} (h : 0 ≤ a) (h' : a ≤ 100) : ∀ n, 0 ≤ rl_kn a n ∧ rl_kn a n ≤ 1000000000 ∧ 0 ≤ rl_kn a n * (100 - a) ∧ rl_kn a n * (100 - a) ≤ 100000000000
  | 0 => ⟨by show (0 : Int) ≤ 1000000000; omega, by show (1000000000 : Int) ≤ 1000000000; omega, by unfold rl_kn; omega, by unfold rl_kn; omega⟩
  | n + 1 => by
    have hi := rl_kn_bd h h' n
    have h1 : 0 ≤ rl_kn a (n + 1) ∧ rl_kn a (n + 1) ≤ 1000000000 := by
      show 0 ≤ rl_kn a n * (100 - a) / 100 ∧ rl_kn a n * (100 - a) / 100 ≤ _; omega
    have h2 := am_mulb h1.1 h1.2 (show 0 ≤ 100 - a by omega) (show 100 - a ≤ 100 by omega)
    exact ⟨h1.1, h1.2, h2.1, by omega⟩
theorem op_knots {p u : Int} (hR : rl_R t mem mem) : am_Mt l g 69 [.inr (.inl 17), .inl p, .inl u] mem (rl_Q1 l g 143 [.inr (.inl 0), .inl p, .inl u] t) := by
  have R1 := rl_R1 hR
  have h4 := hR.1.1.2.2.2.1
  have b4 := hR.2.1.2.2.2.1
  have key : (0 ≤ p ∧ p ≤ 60) → (0 ≤ u ∧ u ≤ 100) → am_Mt l g 143 [.inr (.inl 0), .inl p, .inl u] mem (rl_Q2 t (rl_kn u (p * mem 29 4).toNat)) := by
    intro h1 h2
    have hb := am_mulb h1.1 h1.2 h4.1 h4.2
    have e : mem 0 16 * p = p * mem 29 4 := by rw [← b4, Int.mul_comm]
    generalize p * mem 29 4 = N at *
    refine fm_X10_knots (fun k v1 v2 v3 v5 m => v1 = p ∧ v2 = u ∧ m = mem ∧ ∃ i : Nat, v5 = i ∧ (i : Int) ≤ N ∧ v3 = rl_kn u i ∧ k = (N - i).toNat) (am_cbe (mp_in p 0 60) (fun _ => am_cbn (mp_in u 0 100) (fun _ => ⟨_, rfl, rfl, rfl, rfl, 0, rfl, by omega, rfl, rfl⟩) (fun h => absurd h2 h)) (fun h => absurd h1 h)) ?_
    rintro k v1 v2 v3 v5 m ⟨rfl, rfl, rfl, i, rfl, hi, rfl, rfl⟩
    have hk := rl_kn_bd h2.1 h2.2 i
    rw [e]
    refine ⟨by omega, fun h => ⟨by omega, ?_, R1⟩, fun h => ⟨by omega, by omega, by omega, by omega, (N - (i + 1 : Nat)).toNat, by omega, rfl, rfl, rfl, rfl, i + 1, by omega, by omega, rfl, rfl⟩⟩
    rw [show N.toNat = i by omega]
  refine fm_X9_knots (fun k v1 v2 v3 v5 v6 m => v2 = u ∧ m = mem ∧ (0 ≤ p ∧ p ≤ 60) ∧ (0 ≤ u ∧ u ≤ 100) ∧ v5 = p * mem 29 4 ∧ ∃ i : Nat, v6 = i ∧ (i : Int) ≤ v5 ∧ v3 = rl_kn u i ∧ k = (v5 - i).toNat) (am_cbe (sp_within p 0 60) (fun h1 => am_cbn (sp_within u 0 100) (fun h2 => ?_) (fun h2 => ?_)) (fun h1 => ?_)) ?_
  · have hb := am_mulb h1.1 h1.2 h4.1 h4.2
    exact ⟨by omega, _, rfl, rfl, rfl, h1, h2, rfl, 0, rfl, by omega, rfl, rfl⟩
  · exact fm_X10_knots (fun k v1 v2 v3 v5 m => False) (am_cbe (mp_in p 0 60) (fun _ => am_cbn (mp_in u 0 100) (fun h => absurd h h2) (fun _ => ⟨rfl, R1⟩)) (fun h => absurd h1 h)) (fun k v1 v2 v3 v5 m h => h.elim)
  · exact fm_X10_knots (fun k v1 v2 v3 v5 m => False) (am_cbe (mp_in p 0 60) (fun h => absurd h h1) (fun _ => ⟨rfl, R1⟩)) (fun k v1 v2 v3 v5 m h => h.elim)
  · rintro k v1 v2 v3 v5 v6 m ⟨rfl, rfl, h1, h2, rfl, i, rfl, hi, rfl, rfl⟩
    have hk := rl_kn_bd h2.1 h2.2 i
    have hb := am_mulb h1.1 h1.2 h4.1 h4.2
    have key := key h1 h2
    generalize p * m 29 4 = N at *
    refine ⟨fun h => ⟨by omega, ?_⟩, fun h => ⟨by omega, by omega, by omega, by omega, (N - (i + 1 : Nat)).toNat, by omega, rfl, rfl, rfl, h1, h2, rfl, i + 1, by omega, by omega, rfl, rfl⟩⟩
    rw [show N.toNat = i by omega] at key
    exact key
end OPF
