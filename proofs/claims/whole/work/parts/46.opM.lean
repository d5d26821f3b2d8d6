section OPM
variable {l : Launch} {g : am_G} {mem mm : am_Mem} {t : Int}
def rl_V (mem mm : am_Mem) : Prop := (∀ k, k < 54 → k ≠ 9 → k ≠ 0 → mm k = mem k) ∧ ∀ j, j ≠ 34 → j ≠ 35 → mm 0 j = mem 0 j
theorem rl_V_R (hR : rl_R t mem mem) (hV : rl_V mem mm) : rl_R t mm mm :=
  rl_R_fr hR (fun k h1 h2 h3 => hV.1 k h2 (by omega) (by omega)) (fun k h1 h2 h3 h4 h5 h6 => hV.1 k (by omega) h6 (by omega)) (fun j _ => hV.2 j (by omega) (by omega))
theorem rl_ri_z {pace : Int} : ∀ (i : Nat) (a b c : Int), rl_ri mem pace i a b c → (b = 0 ↔ c = -1)
  | 0, a, b, c, h => by obtain ⟨rfl, rfl, rfl⟩ := h; omega
  | i + 1, a, b, c, h => by
    obtain ⟨a0, b0, c0, h1, h2⟩ := h
    have := rl_ri_z i _ _ _ h1
    have := rl_ri_bd i _ _ _ h1
    rcases h2 with ⟨p, q⟩ | ⟨p, q, r⟩ <;> omega
def rl_ti (mem : am_Mem) (pa i : Int) (c : Nat) : Int := if pa = -1 then rl_tb i (mem 38 c) (mem 39 c) (mem 32 c) else rl_tb (i - pa) (mem 31 c) 0 (mem 32 c)
def rl_si (mem : am_Mem) (pa i : Int) (c : Nat) : Int := if pa = -1 then mem 39 c + i else i - pa
def rl_RW (mem : am_Mem) (pace : Int) (i : Nat) (pa pu h : Int) (w : Nat → Int) : Prop := w 0 = mem 36 0 ∧ w 1 = mem 36 1 + i ∧ w 2 = rl_se mem pace i + pu * mem 29 3 ∧ w 3 = h ∧ w 4 = 0 ∧ ∀ c : Nat, (c : Int) < mem 29 4 → w (5 + c) = mem 37 c ∧ w (9 + c) = rl_ti mem pa i c ∧ w (13 + c) = rl_si mem pa i c
theorem rl_RW_rok {pace pa pu h : Int} {i : Nat} {w : Nat → Int} (hR : rl_R t mem mem) (hp : 10 ≤ pace ∧ pace ≤ 70) (hi : mem 36 1 + i ≤ rl_am mem) (hpa : pa = -1 ∨ (0 ≤ pa ∧ pa ≤ i)) (hpu : 0 ≤ pu ∧ pu ≤ i + 1) (hh : 0 ≤ h ∧ h ≤ t + 200) (hw : rl_RW mem pace i pa pu h w) : rl_rok (mem 29 4) (rl_am mem) (t + 200) w := by
  obtain ⟨w0, w1, w2, w3, w4, wc⟩ := hw
  have hX := hR.1
  have hN := rl_X_now hX
  have ha := rl_am_bd hX.1
  have hse := rl_se_bd (pace := pace) (i := i) hX hp hi
  have p3 := hX.1.2.2.1
  have pc := hX.1.2.2.2.2.2.1
  have hb := am_mulb (a := pu) (A := 121) (b := mem 29 3) (B := 999) (by omega) (by omega) p3.1 p3.2
  refine ⟨by rw [w0]; exact hN.1, by rw [w1]; omega, by rw [w2, w1]; omega, by rw [w3]; exact hh, Or.inl w4, fun c hc => ?_⟩
  obtain ⟨g1, g2, g3⟩ := wc c hc
  have hc1 := rl_X_c hX hc
  have hc2 := pc c hc
  rw [g1, g2, g3, w1]
  refine ⟨hc1.1, ?_, ?_⟩
  · unfold rl_ti
    split
    · exact rl_tb_bd hc1.2.1.1 hc1.2.1.2 hc2.2.2.1 (by omega)
    · exact rl_tb_bd hc2.2.1.1 hc2.2.1.2 hc2.2.2.1 (by omega)
  · unfold rl_si
    split <;> omega
theorem rl_RW_drv {pace pa pu h own : Int} {i : Nat} {w gv : Nat → Int} (hR : rl_R t mem mem) (hpa : pa = -1 ∨ (0 ≤ pa ∧ pa ≤ i)) (ho : own = rl_own mem pace i) (hg : ∀ c : Nat, (c : Int) < mem 29 4 → gv c = mem 32 c) (hw : rl_RW mem pace i pa pu h w) : rl_RW mem pace (i + 1) pa pu h (rw_drv (mem 29 4).toNat gv own w) := by
  obtain ⟨w0, w1, w2, w3, w4, wc⟩ := hw
  have h4 := hR.1.1.2.2.2.1
  have pc := hR.1.1.2.2.2.2.2.1
  refine ⟨w0, ?_, ?_, w3, w4, fun c hc => ?_⟩
  · show w 1 + 1 = _; rw [w1]; omega
  · show w 2 + 3600 / own = (rl_se mem pace i + 3600 / rl_own mem pace i) + _; rw [w2, ho]; omega
  · obtain ⟨g1, g2, g3⟩ := wc c hc
    have hc2 := pc c hc
    unfold rw_drv rw_slk
    refine ⟨?_, ?_, ?_⟩
    · rw [if_neg (by omega), if_neg (by omega), if_neg (by omega), if_neg (by omega)]; exact g1
    · rw [if_neg (by omega), if_neg (by omega), if_pos (by omega), show 9 + c + 4 = 13 + c by omega, show 9 + c - 9 = c by omega, g2, g3, hg c hc]
      unfold rl_ti rl_si
      by_cases e : pa = -1
      · rw [if_pos e, if_pos e, if_pos e]
        exact rl_tb_s hc2.2.2.1 (by omega)
      · rw [if_neg e, if_neg e, if_neg e]
        have := rl_tb_s (t := mem 31 c) (s := 0) (k := i - pa) hc2.2.2.1 (by omega)
        rw [Int.zero_add] at this
        rw [this, show (i : Int) - pa + 1 = ((i + 1 : Nat) : Int) - pa by omega]
    · rw [if_neg (by omega), if_neg (by omega), if_neg (by omega), if_pos (by omega), g3]
      unfold rl_si
      split <;> omega
theorem rl_RW_H {pace pa pu h v : Int} {i : Nat} (hR : rl_R t mem mem) (hV : rl_V mem mm) (hw : rl_RW mem pace i pa pu h (mm 9)) : rl_mh_t mm 0 v ↔ rl_H mem pa i v := by
  obtain ⟨w0, w1, w2, w3, w4, wc⟩ := hw
  have b4 := hR.2.1.2.2.2.1
  have b2 := hR.2.1.2.1
  have h4 := hR.1.1.2.2.2.1
  have e0 : mm 0 16 = mem 29 4 := by rw [hV.2 16 (by omega) (by omega), b4]
  have e5 : mm 5 1 = mem 29 2 := by rw [hV.1 5 (by omega) (by omega) (by omega), b2]
  unfold rl_mh_t rl_H
  rw [e0, e5, w0, Int.add_zero]
  have k1 : ∀ f : Nat → Int, (∀ c : Nat, (c : Int) < mem 29 4 → mm 9 (9 + c) = f c) → rl_hf (mem 29 4).toNat (mem 36 0) (fun c => mm 9 (5 + c)) (fun c => mm 9 (9 + c)) = rl_hf (mem 29 4).toNat (mem 36 0) (mem 37) f := fun f hf => by
    unfold rl_hf
    congr 1
    refine rl_sm_cg _ (fun c hc => ?_)
    show rl_cf (mm 9 (5 + c)) (mm 9 (9 + c)) = _
    rw [(wc c (by omega)).1, hf c (by omega)]
  have k2 : ∀ f : Nat → Int, (∀ c : Nat, (c : Int) < mem 29 4 → mm 9 (9 + c) = f c) → rl_hb (mem 29 4).toNat (mem 36 0) (fun c => mm 9 (5 + c)) (fun c => mm 9 (9 + c)) = rl_hb (mem 29 4).toNat (mem 36 0) (mem 37) f := fun f hf => by
    unfold rl_hb
    congr 1
    refine rl_sm_cg _ (fun c hc => ?_)
    show rl_cb (mm 9 (5 + c)) (mm 9 (9 + c)) = _
    rw [(wc c (by omega)).1, hf c (by omega)]
  by_cases e : pa = -1
  · have hf : ∀ c : Nat, (c : Int) < mem 29 4 → mm 9 (9 + c) = rl_tb i (mem 38 c) (mem 39 c) (mem 32 c) := fun c hc => by
      rw [(wc c hc).2.1]; unfold rl_ti; rw [if_pos e]
    rw [k1 _ hf, k2 _ hf]
    exact ⟨fun q => ⟨fun _ => q, fun h => absurd e h⟩, fun q => q.1 e⟩
  · have hf : ∀ c : Nat, (c : Int) < mem 29 4 → mm 9 (9 + c) = rl_tb ((i : Int) - pa) (mem 31 c) 0 (mem 32 c) := fun c hc => by
      rw [(wc c hc).2.1]; unfold rl_ti; rw [if_neg e]
    rw [k1 _ hf, k2 _ hf]
    exact ⟨fun q => ⟨fun h => absurd h e, fun _ => q⟩, fun q => q.2 e⟩
/-- one mile of the reference's try -/
def rl_Q1m (mem mm : am_Mem) (pace : Int) (i : Nat) (pa pu h : Int) : am_Po := fun z m => (∀ k, k ≠ 9 → m k = mm k) ∧ ((rl_H mem pa i (rl_vi mem pace i) ∧ z = 1 ∧ rl_RW mem pace (i + 1) pa pu h (m 9)) ∨ (¬ rl_H mem pa i (rl_vi mem pace i) ∧ z = 0 ∧ m 9 = rw_lost (mm 9)))
theorem mp_try {pace pa pu h : Int} {i : Nat} (hR : rl_R t mem mem) (ht : t ≤ 700) (hV : rl_V mem mm) (hp : 10 ≤ pace ∧ pace ≤ 70) (hi : mem 36 1 + i < rl_am mem) (hpa : pa = -1 ∨ (0 ≤ pa ∧ pa ≤ i)) (hpu : 0 ≤ pu ∧ pu ≤ i + 1) (hh : 0 ≤ h ∧ h ≤ t + 200) (hw : rl_RW mem pace i pa pu h (mm 9)) {F : Int → am_Mem → Prop} (hF : ∀ z m, rl_Q1m mem mm pace i pa pu h z m → F z m) : ∃ q : am_Po, am_Mt l g 120 [.inr (.inl 0), .inr (.inl 9), .inl pace, .inl 0] mm q ∧ ∀ (z : Int) (m : am_Mem), q z m → F z m := by
  have hRm := rl_V_R hR hV
  have hMP := rl_R_MP hRm
  have hX := hR.1
  have h5 := hX.1.2.2.2.2.1
  obtain ⟨b0, b2, b3, b4, b5, bc, br⟩ := hR.2.1
  have e16 : mm 0 16 = mem 29 4 := by rw [hV.2 16 (by omega) (by omega), b4]
  have e17 : mm 0 17 = mem 29 5 := by rw [hV.2 17 (by omega) (by omega), b5]
  have e6 := hV.1 6 (by omega) (by omega) (by omega)
  have e7 := hV.1 7 (by omega) (by omega) (by omega)
  have eam : rl_mam mm = rl_am mem := by
    have := rl_R_am hR
    unfold rl_mam at this ⊢
    rw [e17, e7, b5]; exact this
  have hrok : rl_rok (mm 0 16) (rl_mam mm) (t + 200) (mm 9) := by
    rw [e16, eam]; exact rl_RW_rok hR hp (by omega) hpa hpu hh hw
  have w1 : mm 9 1 = mem 36 1 + i := hw.2.1
  have ero : rl_mro_t mm = rl_roi mem i := by
    unfold rl_mro_t rl_roi rl_rd
    rw [e17, w1, e7]
    congr 1
    refine rl_rd_cg _ _ _ (fun r hr => ?_)
    exact ((br r (by omega)).1).symm
  have hin := rl_roi_in hX hi
  have e71 : mm 7 (3 * rl_roi mem i + 1) = mem 34 (rl_roi mem i) := by rw [e7]; exact ((br _ hin).2.1).symm
  have e72 : mm 7 (3 * rl_roi mem i + 2) = mem 35 (rl_roi mem i) := by rw [e7]; exact ((br _ hin).2.2).symm
  have eow : rl_mow_t mm pace = rl_own mem pace i := by unfold rl_mow_t rl_own; rw [ero, e71]
  have eP : rl_mh_t mm 0 (rl_mow_t mm pace + (mm 7 (3 * rl_mro_t mm + 2) + 0)) ↔ rl_H mem pa i (rl_vi mem pace i) := by
    rw [rl_RW_H hR hV hw, eow, ero, e72, Int.add_zero]; rfl
  refine am_cq (mp_goOn_t hMP hrok (by omega) (by rw [w1, eam]; exact hi) hp.1 hp.2 (by omega) (by omega)) (fun z m hq => hF z m ?_)
  rcases hq with ⟨q1, rfl, rfl⟩ | ⟨q1, rfl, rfl⟩
  · refine ⟨fun k hk => am_st_ne hk, Or.inl ⟨eP.mp q1, rfl, ?_⟩⟩
    rw [am_st_at, e16]
    exact rl_RW_drv hR hpa eow (fun c hc => by rw [e6]; exact ((bc c hc).2).symm) hw
  · exact ⟨fun k hk => am_st_ne hk, Or.inr ⟨fun q => q1 (eP.mpr q), rfl, am_st_at _ _ _⟩⟩
def rl_Qls (mem : am_Mem) (pace : Int) (L : Nat) : am_Po := fun z m => rl_V mem m ∧ ((z = 1 ∧ (∃ pa, rl_ri mem pace L pa (m 0 34) (m 0 35)) ∧ m 9 2 = rl_se mem pace L + m 0 34 * mem 29 3) ∨ (z = 0 ∧ ∃ j, j < L ∧ rl_rf mem pace j))
def rl_JS (mem : am_Mem) (pace : Int) (L : Nat) : Nat → Int → Int → am_Mem → Prop := fun n v1 v2 m => v1 = pace ∧ v2 = rl_am mem ∧ rl_V mem m ∧ ∃ (i : Nat) (pa : Int), i ≤ L ∧ rl_ri mem pace i pa (m 0 34) (m 0 35) ∧ rl_RW mem pace i pa (m 0 34) (mem 36 3 + m 0 34) (m 9) ∧ n = L - i
theorem mp_layStops {pace : Int} {L : Nat} (hR : rl_R t mem mem) (ht : t ≤ 700) (hV : rl_V mem mm) (hp : 10 ≤ pace ∧ pace ≤ 70) (hL : (L : Int) = rl_am mem - mem 36 1) : am_Mt l g 136 [.inr (.inl 0), .inl pace] mm (rl_Qls mem pace L) := by
  have hX := hR.1
  have hN := rl_X_now hX
  have ha := rl_am_bd hX.1
  have p3 := hX.1.2.2.1
  have h4 := hX.1.2.2.2.1
  have pc := hX.1.2.2.2.2.2.1
  obtain ⟨b0, b2, b3, b4, b5, bc, br⟩ := hR.2.1
  obtain ⟨c0, c1, c2, c3, c4, cc⟩ := rl_he hR
  have hVs : ∀ m', (∀ k, k ≠ 9 → k ≠ 0 → m' k = mm k) → (∀ j, j ≠ 34 → j ≠ 35 → m' 0 j = mm 0 j) → rl_V mem m' := fun m' h1 h2 => ⟨fun k a1 a2 a3 => by rw [h1 k a2 a3, hV.1 k a1 a2 a3], fun j a1 a2 => by rw [h2 j a1 a2, hV.2 j a1 a2]⟩
  have eam : ∀ m', rl_V mem m' → rl_mam m' = rl_am mem := fun m' hV' => by
    have := rl_R_am hR
    unfold rl_mam at this ⊢
    rw [hV'.2 17 (by omega) (by omega), hV'.1 7 (by omega) (by omega) (by omega)]; exact this
  have hw0 : ∀ i, i < 17 → am_cp mm 8 0 9 0 17 9 i = mem 8 i := fun i hi => by rw [rl_tr_w hi, hV.1 8 (by omega) (by omega) (by omega)]
  generalize hM0 : am_up (am_up (am_up (am_up (am_cp mm 8 0 9 0 17) 9 2 0) 9 4 0) 0 34 0) 0 35 (-1) = M0
  have hV0 : rl_V mem M0 := by
    rw [← hM0]
    refine hVs _ (fun k h1 h2 => ?_) (fun j h1 h2 => ?_)
    · rw [am_up_k h2, am_up_k h2, am_up_k h1, am_up_k h1, am_cp_k h1]
    · rw [am_up_ni h2, am_up_ni h1]; rfl
  have hrw0 : rl_RW mem pace 0 (-1) 0 (mem 36 3 + 0) (M0 9) := by
    rw [← hM0]
    show rl_RW mem pace 0 (-1) 0 (mem 36 3 + 0) (am_up (am_up (am_cp mm 8 0 9 0 17) 9 2 0) 9 4 0 9)
    refine ⟨?_, ?_, ?_, ?_, rfl, fun c hc => ?_⟩
    · show am_cp mm 8 0 9 0 17 9 0 = _; rw [hw0 0 (by omega)]; exact c0.symm
    · show am_cp mm 8 0 9 0 17 9 1 = _; rw [hw0 1 (by omega), ← c1]; simp
    · show (0 : Int) = 0 + 0 * _; omega
    · show am_cp mm 8 0 9 0 17 9 3 = _; rw [hw0 3 (by omega), ← c3]; omega
    · rw [am_up_ni (by omega), am_up_ni (by omega), am_up_ni (by omega), am_up_ni (by omega), am_up_ni (by omega), am_up_ni (by omega), hw0 (5 + c) (by omega), hw0 (9 + c) (by omega), hw0 (13 + c) (by omega)]
      obtain ⟨g1, g2, g3⟩ := cc c hc
      refine ⟨g1.symm, ?_, ?_⟩
      · unfold rl_ti; rw [if_pos rfl, ← g2]; exact (rl_tb_0 (rl_X_c hX hc).2.1.1).symm
      · unfold rl_si; rw [if_pos rfl, ← g3]; simp
  have hMP0 : rl_MP M0 := rl_R_MP (rl_V_R hR hV0)
  refine fm_X10_layStops (rl_JS mem pace L) (am_cl mp_begin ⟨by omega, by omega, ?_⟩) ?_
  · rw [hM0]
    refine am_cl (mp_allMiles hMP0) ⟨_, rfl, rfl, eam M0 hV0, hV0, 0, -1, by omega, ?_, ?_, rfl⟩
    · rw [← hM0]; exact ⟨rfl, rfl, rfl⟩
    · have e34 : M0 0 34 = 0 := by rw [← hM0]; rfl
      rw [e34]; exact hrw0
  · rintro n v1 v2 m ⟨rfl, rfl, hVm, i, pa, hi, hri, hrw, rfl⟩
    have w1 : m 9 1 = mem 36 1 + i := hrw.2.1
    have w2 := hrw.2.2.1
    have hbd := rl_ri_bd _ _ _ _ hri
    have hz := rl_ri_z _ _ _ _ hri
    refine ⟨by omega, fun h => ⟨Or.inr rfl, ?_⟩, fun h => mp_try hR ht hVm hp (by omega) (by omega) (by omega) (by omega) hrw ?_⟩
    · have ei : i = L := by omega
      subst ei
      exact ⟨hVm, Or.inl ⟨rfl, ⟨pa, hri⟩, w2⟩⟩
    · rintro z m' ⟨q1, q2⟩
      have e34 : m' 0 34 = m 0 34 := by rw [q1 0 (by omega)]
      have e35 : m' 0 35 = m 0 35 := by rw [q1 0 (by omega)]
      have hVm' : rl_V mem m' := ⟨fun k a1 a2 a3 => by rw [q1 k a2, hVm.1 k a1 a2 a3], fun j a1 a2 => by rw [q1 0 (by omega), hVm.2 j a1 a2]⟩
      refine ⟨fun hz1 => ?_, fun hz0 => ?_⟩
      · rcases q2 with ⟨p1, _, p3⟩ | ⟨_, p2, _⟩
        · exact ⟨L - (i + 1), by omega, rfl, rfl, rfl, hVm', i + 1, pa, by omega, by rw [e34, e35]; exact ⟨_, _, _, hri, Or.inl ⟨p1, rfl, rfl, rfl⟩⟩, by rw [e34]; exact p3, rfl⟩
        · exact absurd p2 hz1
      · rcases q2 with ⟨_, p2, _⟩ | ⟨p1, _, p9⟩
        · omega
        · have e16 : m' 0 16 = mem 29 4 := by rw [hVm'.2 16 (by omega) (by omega), b4]
          have hpl := mp_pullAll_t (l := l) (g := g) (mem := m') (by omega) (by omega)
          rw [e16, p9, hVm'.1 6 (by omega) (by omega) (by omega)] at hpl
          refine am_cl hpl ?_
          generalize hM : am_st m' 9 (rw_pull (mem 29 4).toNat (fun c => mem 6 (3 * c + 1)) (rw_lost (m 9))) = M
          have M9 : M 9 = rw_pull (mem 29 4).toNat (fun c => mem 6 (3 * c + 1)) (rw_lost (m 9)) := by rw [← hM]; exact am_st_at _ _ _
          have Mk : ∀ k, k ≠ 9 → M k = m k := fun k hk => by rw [← hM, am_st_ne hk, q1 k hk]
          have M92 : M 9 2 = m 9 2 := by rw [M9]; rfl
          have M91 : M 9 1 = m 9 1 := by rw [M9]; rfl
          have M52 : M 5 2 = mem 29 3 := by rw [Mk 5 (by omega), hVm.1 5 (by omega) (by omega) (by omega), b3]
          have M81 : M 8 1 = mem 36 1 := by rw [Mk 8 (by omega), hVm.1 8 (by omega) (by omega) (by omega), c1]
          have M34 : M 0 34 = m 0 34 := by rw [Mk 0 (by omega)]
          have M35 : M 0 35 = m 0 35 := by rw [Mk 0 (by omega)]
          have hse := rl_se_bd (pace := v1) (i := i) hX hp (by omega)
          have hb := am_mulb (a := m 0 34) (A := 121) (b := mem 29 3) (B := 999) (by omega) (by omega) p3.1 p3.2
          have hrw2 : ∀ X Y, rl_RW mem v1 i i (m 0 34 + 1) (mem 36 3 + (m 0 34 + 1)) (am_up (am_up (am_up (am_up M 9 4 0) 9 2 (M 9 2 + M 5 2)) 0 35 X) 0 34 Y 9) := fun X Y => by
            show rl_RW mem v1 i i (m 0 34 + 1) (mem 36 3 + (m 0 34 + 1)) (am_up (am_up M 9 4 0) 9 2 (M 9 2 + M 5 2) 9)
            obtain ⟨r0, r1, r2, r3, r4, rc⟩ := hrw
            refine ⟨?_, ?_, ?_, ?_, rfl, fun c hc => ?_⟩
            · show M 9 0 = _; rw [M9]; exact r0
            · show M 9 1 = _; rw [M91]; exact r1
            · show M 9 2 + M 5 2 = _; rw [M92, M52, r2, Int.add_mul]; omega
            · show M 9 3 = _; rw [M9]; show m 9 3 + 1 = _; rw [r3]; omega
            · rw [am_up_ni (by omega), am_up_ni (by omega), am_up_ni (by omega), am_up_ni (by omega), am_up_ni (by omega), am_up_ni (by omega), M9]
              obtain ⟨s1, s2, s3⟩ := rl_pl_m (tt := fun c => mem 6 (3 * c + 1)) (w := rw_lost (m 9)) h4.2 hc
              rw [s1, s2, s3]
              refine ⟨?_, ?_, ?_⟩
              · unfold rw_lost; rw [if_neg (by omega), if_neg (by omega)]; exact (rc c hc).1
              · unfold rl_ti; rw [if_neg (by omega), Int.sub_self, rl_tb_0 (pc c hc).2.1.1, (bc c hc).1]
              · unfold rl_si; rw [if_neg (by omega), Int.sub_self]
          have hVM : ∀ X Y, rl_V mem (am_up (am_up (am_up (am_up M 9 4 0) 9 2 (M 9 2 + M 5 2)) 0 35 X) 0 34 Y) := fun X Y => ⟨fun k a1 a2 a3 => by rw [am_up_k a3, am_up_k a3, am_up_k a2, am_up_k a2, Mk k a2, hVm.1 k a1 a2 a3], fun j a1 a2 => by
            rw [am_up_ni a1, am_up_ni a2]
            show M 0 j = _
            rw [Mk 0 (by omega), hVm.2 j a1 a2]⟩
          have fin : ∀ X Y, Y = m 0 34 + 1 → ((m 0 35 = -1 ∧ X = (i : Int)) ∨ (¬ m 0 35 = -1 ∧ X = m 0 35)) → ∀ z m'', rl_Q1m mem (am_up (am_up (am_up (am_up M 9 4 0) 9 2 (M 9 2 + M 5 2)) 0 35 X) 0 34 Y) v1 i i (m 0 34 + 1) (mem 36 3 + (m 0 34 + 1)) z m'' → ((¬ z = 0 → ∃ n' : Nat, n' < L - i ∧ (0 : Nat) = 0 ∧ rl_JS mem v1 L n' v1 (rl_am mem) m'') ∧ (z = 0 → (((0 : Int) = 0 ∨ (0 : Int) = 1) ∧ rl_Qls mem v1 L 0 m''))) := by
            rintro X Y rfl hX' z m'' ⟨t1, t2⟩
            have t34 : m'' 0 34 = m 0 34 + 1 := by rw [t1 0 (by omega)]; rfl
            have t35 : m'' 0 35 = X := by rw [t1 0 (by omega)]; rfl
            have hV'' : rl_V mem m'' := ⟨fun k a1 a2 a3 => by rw [t1 k a2, (hVM X (m 0 34 + 1)).1 k a1 a2 a3], fun j a1 a2 => by rw [t1 0 (by omega), (hVM X (m 0 34 + 1)).2 j a1 a2]⟩
            rcases t2 with ⟨u1, rfl, u3⟩ | ⟨u1, rfl, u3⟩
            · exact ⟨fun _ => ⟨L - (i + 1), by omega, rfl, rfl, rfl, hV'', i + 1, i, by omega, by rw [t34, t35]; exact ⟨_, _, _, hri, Or.inr ⟨p1, u1, rfl, rfl, hX'⟩⟩, by rw [t34]; exact u3, rfl⟩, fun h => absurd h (by decide)⟩
            · exact ⟨fun h => absurd rfl h, fun _ => ⟨Or.inl rfl, hV'', Or.inr ⟨rfl, i, by omega, _, _, _, hri, p1, u1⟩⟩⟩
          refine ⟨by omega, by omega, by omega, by rw [M92, M52, w2]; omega, by omega, fun hm => ⟨by omega, mp_try hR ht (hVM _ _) hp (by omega) (by omega) (by omega) (by omega) (hrw2 _ _) (fin _ _ (by rw [M34]) (Or.inr ⟨by omega, by rw [M35]⟩))⟩, fun hm => ⟨by omega, by omega, by omega, by omega, mp_try hR ht (hVM _ _) hp (by omega) (by omega) (by omega) (by omega) (hrw2 _ _) (fin _ _ (by rw [M34]) (Or.inl ⟨by omega, by omega⟩))⟩⟩
end OPM
