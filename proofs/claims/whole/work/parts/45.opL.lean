section OPL
variable {l : Launch} {g : am_G} {mem m : am_Mem} {t : Int}
theorem rl_rdF_at {ml : Nat → Int} {x : Int} {r : Nat} : ∀ (k r0 : Nat), r0 ≤ r → r < r0 + k → (∀ i, i < r0 + k → 0 ≤ ml i) → rl_sm r ml ≤ x → x < rl_sm (r + 1) ml → rl_rdF k r0 (rl_sm r0 ml) ml x = r
  | 0, r0, h1, h2, _, _, _ => by omega
  | k + 1, r0, h1, h2, hp, h3, h4 => by
    rw [rl_rdF]
    have hk : rl_sm r0 ml + ml r0 = rl_sm (r0 + 1) ml := rfl
    by_cases e : r0 = r
    · subst e; rw [if_pos (by rw [hk]; exact h4)]
    · have hm := rl_sm_mono (f := ml) (r0 + 1) r (by omega) (fun c hc => hp c (by omega))
      rw [if_neg (by rw [hk]; omega), hk]
      exact rl_rdF_at k (r0 + 1) (by omega) (by omega) (fun i hi => hp i (by omega)) h3 h4
theorem rl_roi_at {i r : Nat} (hX : rl_X t mem) (hr : (r : Int) < mem 29 5) (h1 : rl_sm r (mem 33) ≤ mem 36 1 + i) (h2 : mem 36 1 + i < rl_sm (r + 1) (mem 33)) : rl_roi mem i = r := by
  have hm := rl_hm hX.1
  unfold rl_roi rl_rd
  have := rl_rdF_at (ml := mem 33) (x := mem 36 1 + i) (r := r) (mem 29 5).toNat 0 (by omega) (by omega) (fun j hj => (hm j (by omega)).1) h1 h2
  rw [show rl_sm 0 (mem 33) = 0 from rfl] at this
  rw [this, Int.toNat_natCast]
def rl_se (mem : am_Mem) (pace : Int) (i : Nat) : Int := rl_sm i (fun j => 3600 / rl_own mem pace j)
theorem rl_se_add {pace own : Int} {i : Nat} : ∀ n : Nat, (∀ j, i ≤ j → j < i + n → rl_own mem pace j = own) → rl_se mem pace (i + n) = rl_se mem pace i + n * (3600 / own)
  | 0, _ => by simp
  | n + 1, h => by
    have h1 := rl_se_add n (fun j h1 h2 => h j h1 (by omega))
    have h2 := h (i + n) (by omega) (by omega)
    show rl_se mem pace (i + n) + 3600 / rl_own mem pace (i + n) = _
    rw [h1, h2, show ((n + 1 : Nat) : Int) = (n : Int) + 1 by omega, Int.add_mul]; omega
theorem rl_roi_in {i : Nat} (hX : rl_X t mem) (h : mem 36 1 + i < rl_am mem) : ((rl_roi mem i : Nat) : Int) < mem 29 5 := by
  have hm := rl_hm hX.1
  have hn := rl_X_now hX
  have h5 := hX.1.2.2.2.2.1
  have := rl_rd_in (ml := mem 33) (x := mem 36 1 + i) (nr := (mem 29 5).toNat) h (by omega) (fun j hj => (hm j (by omega)).1)
  unfold rl_roi
  omega
theorem rl_own_bd {pace : Int} {i : Nat} (hX : rl_X t mem) (hp : 10 ≤ pace ∧ pace ≤ 70) (h : mem 36 1 + i < rl_am mem) : (10 ≤ rl_own mem pace i ∧ rl_own mem pace i ≤ 70) ∧ (0 ≤ mem 35 (rl_roi mem i) ∧ mem 35 (rl_roi mem i) ≤ 30) := by
  have h1 := rl_roi_in hX h
  have h2 := hX.1.2.2.2.2.2.2.1 _ h1
  unfold rl_own
  omega
theorem rl_se_bd {pace : Int} {i : Nat} (hX : rl_X t mem) (hp : 10 ≤ pace ∧ pace ≤ 70) (h : mem 36 1 + i ≤ rl_am mem) : 0 ≤ rl_se mem pace i ∧ rl_se mem pace i ≤ 360 * i :=
  rl_sm_bd i (fun j hj => by
    have := rl_own_bd (i := j) hX hp (by omega)
    exact rl_3600 this.1.1 this.1.2)
/-- over a road -/
def rl_QO (mem m : am_Mem) (pace : Int) (i n L : Nat) : am_Po := fun z m' => (∀ k, k ≠ 54 → m' k = m k) ∧ ((z = 1 ∧ m' 54 5 = ((i + n : Nat) : Int) ∧ rl_ri mem pace (i + n) (m' 54 6) (m' 54 7) (m' 54 8) ∧ m' 54 9 = rl_se mem pace (i + n)) ∨ (z = 0 ∧ ∃ j, j < L ∧ rl_rf mem pace j))
def rl_JO (mem m : am_Mem) (pace : Int) (r i n : Nat) : Nat → Int → Int → Int → Int → Int → Int → Int → am_Mem → Prop := fun k v2 v3 v4 v5 v6 v7 v8 m' => v3 = n ∧ v5 = min pace (mem 34 r) ∧ v6 = rl_F (mem 29 2) (min pace (mem 34 r) + mem 35 r) ∧ v7 = rl_Bk (mem 29 2) (min pace (mem 34 r) + mem 35 r) ∧ (∀ k, k ≠ 54 → m' k = m k) ∧ ∃ j : Nat, v8 = j ∧ j ≤ n ∧ m' 54 5 = ((i + j : Nat) : Int) ∧ rl_ri mem pace (i + j) (m' 54 6) (m' 54 7) (m' 54 8) ∧ m' 54 9 = rl_se mem pace i ∧ k = n - j
theorem sp_goesOver {pace n' : Int} {r i n L : Nat} (hX : rl_X t mem) (hp : rl_pre mem m L) (hL : (L : Int) = rl_am mem - mem 36 1) (hpa : 10 ≤ pace ∧ pace ≤ 70) (hr : (r : Int) < mem 29 5) (hn : n' = n) (hin : i + n ≤ L) (hroad : ∀ j, i ≤ j → j < i + n → rl_roi mem j = r) (h5 : m 54 5 = i) (hri : rl_ri mem pace i (m 54 6) (m 54 7) (m 54 8)) (h9 : m 54 9 = rl_se mem pace i) : am_Mt l g 38 [.inr (.inl 54), .inr (.inl 29), .inl r, .inl n', .inl pace] m (rl_QO mem m pace i n L) := by
  subst hn
  have hN := rl_X_now hX
  have ha := rl_am_bd hX.1
  obtain ⟨p0, p2, p3, p4, p5, pc, pr, -⟩ := hX.1
  obtain ⟨r1, r2, r3⟩ := pr r hr
  have e29 := hp.1 29 (by omega)
  have e34 := hp.1 34 (by omega)
  have e35 := hp.1 35 (by omega)
  have ho : 10 ≤ min pace (mem 34 r) ∧ min pace (mem 34 r) ≤ 70 := by omega
  have hse := rl_se_bd (pace := pace) (i := i) hX hpa (by omega)
  have hh := sp_hasRoad (l := l) (g := g) (mem := m) (a := r) (by rw [e29]; omega)
  rw [e29] at hh
  refine fm_X6_goesOver (rl_JO mem m pace r i n) (am_cbn hh (fun _ => ⟨by omega, ?_⟩) (fun h => absurd ⟨by omega, hr⟩ h)) ?_
  · rw [Int.toNat_natCast, e34]
    refine am_cl (sp_min _ _) ⟨by omega, ?_⟩
    rw [e29, e35]
    refine am_cl (sp_liftFront p2.1 p2.2 (by omega) (by omega)) ⟨by omega, ?_⟩
    rw [e29, e35]
    exact am_cl (sp_liftBack p2.1 p2.2 (by omega) (by omega)) ⟨_, rfl, rfl, rfl, rfl, rfl, rfl, fun _ _ => rfl, 0, rfl, by omega, h5, hri, h9, rfl⟩
  · rintro k v2 v3 v4 v5 v6 v7 v8 m' ⟨rfl, rfl, rfl, rfl, hm, j, rfl, hj, m5, mri, m9, rfl⟩
    have hp' : rl_pre mem m' L := ⟨fun k hk => by rw [hm k (by omega), hp.1 k hk], fun q hq => by rw [hm 55 (by omega), hm 56 (by omega), hm 57 (by omega), hm 58 (by omega)]; exact hp.2 q hq⟩
    have hbd := rl_ri_bd _ _ _ _ mri
    refine ⟨fun h => ⟨fun h0 => by omega, fun _ => ?_⟩, fun h => ?_⟩
    · have ej : j = n := by omega
      subst ej
      have h36 := rl_3600 ho.1 ho.2
      have hadd := rl_se_add (mem := mem) (pace := pace) (own := min pace (mem 34 r)) (i := i) j (fun q h1 h2 => by unfold rl_own; rw [hroad q h1 h2])
      have hb := am_mulb (a := (j : Int)) (A := 120) (b := 3600 / min pace (mem 34 r)) (B := 360) (by omega) (by omega) h36.1 h36.2
      refine ⟨by omega, by omega, by rw [m9]; omega, Or.inr rfl, fun k hk => by rw [am_up_k hk, hm k hk], Or.inl ⟨rfl, m5, mri, ?_⟩⟩
      show m' 54 9 + _ = _
      rw [m9, hadd]
    · have hri' := hroad (i + j) (by omega) (by omega)
      have ev : rl_vi mem pace (i + j) = min pace (mem 34 r) + mem 35 r := by unfold rl_vi rl_own; rw [hri']
      have go : ∀ M : am_Mem, (∀ k, k ≠ 54 → M k = m' k) → M 54 5 = ((i + j : Nat) : Int) → M 54 9 = m' 54 9 → rl_ri mem pace (i + j + 1) (M 54 6) (M 54 7) (M 54 8) → (-2147483648 ≤ M 54 5 + 1 ∧ M 54 5 + 1 ≤ 2147483647) ∧ ((-2147483648 ≤ (j : Int) + 1 ∧ (j : Int) + 1 ≤ 2147483647) ∧ ∃ n' : Nat, n' < n - j ∧ (54 : Nat) = 54 ∧ (29 : Nat) = 29 ∧ rl_JO mem m pace r i n n' v2 n v4 (min pace (mem 34 r)) (rl_F (mem 29 2) (min pace (mem 34 r) + mem 35 r)) (rl_Bk (mem 29 2) (min pace (mem 34 r) + mem 35 r)) ((j : Int) + 1) (am_up M 54 5 (M 54 5 + 1))) := fun M h1 h2 h3 h4 =>
        ⟨by omega, by omega, n - (j + 1), by omega, rfl, rfl, rfl, rfl, rfl, rfl, fun k hk => by rw [am_up_k hk, h1 k hk, hm k hk], j + 1, by omega, by omega, by show M 54 5 + 1 = _; omega, h4, by show M 54 9 = _; rw [h3, m9], rfl⟩
      refine am_cbn (sp_holdsNext hp' m5 (by omega) (by omega) (by omega)) (fun hh => go m' (fun _ _ => rfl) m5 rfl ⟨_, _, _, mri, Or.inl ⟨by rw [ev]; exact hh, rfl, rfl, rfl⟩⟩) (fun hh => ?_)
      have fin : ∀ M : am_Mem, (∀ k, k ≠ 54 → M k = m' k) → M 54 5 = m' 54 5 → M 54 6 = m' 54 5 → M 54 7 = m' 54 7 + 1 → ((m' 54 8 = -1 ∧ M 54 8 = m' 54 5) ∨ (¬ m' 54 8 = -1 ∧ M 54 8 = m' 54 8)) → M 54 9 = m' 54 9 → ∃ q : am_Po, am_Mt l g 39 [.inr (.inl 54), .inl (rl_F (mem 29 2) (min pace (mem 34 r) + mem 35 r)), .inl (rl_Bk (mem 29 2) (min pace (mem 34 r) + mem 35 r))] M q ∧ ∀ (z : Int) (M' : am_Mem), q z M' → ((¬ z = 0 → ((-2147483648 ≤ M' 54 5 + 1 ∧ M' 54 5 + 1 ≤ 2147483647) ∧ ((-2147483648 ≤ (j : Int) + 1 ∧ (j : Int) + 1 ≤ 2147483647) ∧ ∃ n' : Nat, n' < n - j ∧ (54 : Nat) = 54 ∧ (29 : Nat) = 29 ∧ rl_JO mem m pace r i n n' v2 n v4 (min pace (mem 34 r)) (rl_F (mem 29 2) (min pace (mem 34 r) + mem 35 r)) (rl_Bk (mem 29 2) (min pace (mem 34 r) + mem 35 r)) ((j : Int) + 1) (am_up M' 54 5 (M' 54 5 + 1))))) ∧ (z = 0 → (((0 : Int) = 0 ∨ (0 : Int) = 1) ∧ rl_QO mem m pace i n L 0 M'))) := by
        intro M k0 k5 k6 k7 k8 k9
        have hpM : rl_pre mem M L := ⟨fun k hk => by rw [k0 k (by omega), hp'.1 k hk], fun q hq => by rw [k0 55 (by omega), k0 56 (by omega), k0 57 (by omega), k0 58 (by omega)]; exact hp'.2 q hq⟩
        have e6 : M 54 6 = ((i + j : Nat) : Int) := by rw [k6, m5]
        refine am_cbn (sp_holdsNext hpM (i := i + j) (by rw [k5, m5]) (by omega) (by omega) (by omega)) (fun hh2 => ?_) (fun hh2 => ?_)
        · rw [e6] at hh2
          exact go M k0 (by rw [k5, m5]) k9 ⟨_, _, _, mri, Or.inr ⟨by rw [ev]; exact hh, by rw [ev]; exact hh2, e6, k7, by rw [m5] at k8; exact k8⟩⟩
        · rw [e6] at hh2
          exact ⟨Or.inl rfl, fun k hk => by rw [k0 k hk, hm k hk], Or.inr ⟨rfl, i + j, by omega, _, _, _, mri, by rw [ev]; exact hh, by rw [ev]; exact hh2⟩⟩
      have hpl : am_Mt l g 40 [.inr (.inl 54)] m' (fun _ M => (∀ k, k ≠ 54 → M k = m' k) ∧ M 54 5 = m' 54 5 ∧ M 54 6 = m' 54 5 ∧ M 54 7 = m' 54 7 + 1 ∧ ((m' 54 8 = -1 ∧ M 54 8 = m' 54 5) ∨ (¬ m' 54 8 = -1 ∧ M 54 8 = m' 54 8)) ∧ M 54 9 = m' 54 9) :=
        fm_X6_pullAhead ⟨by omega, fun q => ⟨fun k hk => by rw [am_up_k hk, am_up_k hk], rfl, rfl, rfl, Or.inr ⟨q, rfl⟩, rfl⟩, fun q => ⟨fun k hk => by rw [am_up_k hk, am_up_k hk, am_up_k hk], rfl, rfl, rfl, Or.inl ⟨q, rfl⟩, rfl⟩⟩
      exact am_cq hpl (fun _ M hM => fin M hM.1 hM.2.1 hM.2.2.1 hM.2.2.2.1 hM.2.2.2.2.1 hM.2.2.2.2.2)
/-- the whole ride -/
def rl_Qgo (mem m : am_Mem) (pace : Int) (L : Nat) : am_Po := fun z m' => (∀ k, k ≠ 54 → m' k = m k) ∧ ((z = 1 ∧ (∃ pa, rl_ri mem pace L pa (m' 54 7) (m' 54 8)) ∧ m' 54 9 = rl_se mem pace L + m' 54 7 * mem 29 3) ∨ (z = 0 ∧ ∃ j, j < L ∧ rl_rf mem pace j))
def rl_JR (mem m : am_Mem) (pace : Int) : Nat → Int → Int → Int → Int → am_Mem → Prop := fun k v2 v3 v4 v5 m' => v3 = pace ∧ (∀ k, k ≠ 54 → m' k = m k) ∧ ∃ r i : Nat, v5 = r ∧ (r : Int) ≤ mem 29 5 ∧ v4 = max 0 (mem 36 1 - rl_sm r (mem 33)) ∧ (i : Int) = max 0 (rl_sm r (mem 33) - mem 36 1) ∧ m' 54 5 = i ∧ rl_ri mem pace i (m' 54 6) (m' 54 7) (m' 54 8) ∧ m' 54 9 = rl_se mem pace i ∧ k = 6 - r
theorem sp_goes {pace : Int} {L : Nat} (hX : rl_X t mem) (hp : rl_pre mem m L) (hL : (L : Int) = rl_am mem - mem 36 1) (hpa : 10 ≤ pace ∧ pace ≤ 70) : am_Mt l g 37 [.inr (.inl 54), .inr (.inl 29), .inl (mem 36 1), .inl pace] m (rl_Qgo mem m pace L) := by
  have hN := rl_X_now hX
  have ha := rl_am_bd hX.1
  have hml := rl_hm hX.1
  obtain ⟨p0, p2, p3, p4, p5, pc, pr, -⟩ := hX.1
  have e29 := hp.1 29 (by omega)
  have e33 := hp.1 33 (by omega)
  refine fm_X6_goes (rl_JR mem m pace) ⟨6, rfl, rfl, rfl, fun k hk => ?_, 0, 0, rfl, by omega, ?_, ?_, rfl, ⟨rfl, rfl, rfl⟩, rfl, rfl⟩ ?_
  · rw [am_up_k hk, am_up_k hk, am_up_k hk, am_up_k hk, am_up_k hk]
  · show mem 36 1 = max 0 (mem 36 1 - 0); omega
  · show (0 : Int) = max 0 (0 - mem 36 1); omega
  · rintro k v2 v3 v4 v5 m' ⟨rfl, hm, r, i, rfl, hr, rfl, hi, m5, mri, m9, rfl⟩
    have e29' : m' 29 = mem 29 := by rw [hm 29 (by omega), e29]
    have e33' : m' 33 = mem 33 := by rw [hm 33 (by omega), e33]
    have hp' : rl_pre mem m' L := ⟨fun k hk => by rw [hm k (by omega), hp.1 k hk], fun q hq => by rw [hm 55 (by omega), hm 56 (by omega), hm 57 (by omega), hm 58 (by omega)]; exact hp.2 q hq⟩
    have hbd := rl_ri_bd _ _ _ _ mri
    rw [e29', e33']
    refine ⟨fun h => ?_, fun h => ⟨fun h' => by omega, fun h' => ?_⟩⟩
    · have er : r = (mem 29 5).toNat := by omega
      have eam : rl_sm r (mem 33) = rl_am mem := by rw [er]; rfl
      have ei : i = L := by omega
      subst ei
      have hse := rl_se_bd (pace := v3) (i := i) hX hpa (by omega)
      have hb := am_mulb (a := m' 54 7) (A := 120) (b := mem 29 3) (B := 999) (by omega) (by omega) p3.1 p3.2
      refine ⟨by omega, by omega, Or.inr rfl, fun k hk => by rw [am_up_k hk, hm k hk], Or.inl ⟨rfl, ⟨_, mri⟩, ?_⟩⟩
      show m' 54 9 + _ = _
      rw [m9]; rfl
    · have hmr := hml r h
      have hs1 : rl_sm (r + 1) (mem 33) = rl_sm r (mem 33) + mem 33 r := rfl
      have hs2 := rl_sm_mono (f := mem 33) (r + 1) (mem 29 5).toNat (by omega) (fun c hc => (hml c (by omega)).1)
      have hs2' : rl_sm (r + 1) (mem 33) ≤ rl_am mem := hs2
      have hs3 := rl_sm_bd (f := mem 33) (K := 20) r (fun c hc => hml c (by omega))
      rw [Int.toNat_natCast]
      refine ⟨by omega, by omega, am_cl (sp_max _ _) ⟨by omega, ?_⟩⟩
      rw [e33']
      refine ⟨by omega, am_cl (sp_max _ _) ?_⟩
      obtain ⟨n, hn⟩ : ∃ n : Nat, max 0 (mem 33 r - max 0 (mem 36 1 - rl_sm r (mem 33))) = n := ⟨(max 0 (mem 33 r - max 0 (mem 36 1 - rl_sm r (mem 33)))).toNat, by omega⟩
      refine am_cq (sp_goesOver (n := n) hX hp' hL hpa h hn (by omega) (fun j h1 h2 => rl_roi_at hX h (by omega) (by omega)) m5 mri m9) ?_
      rintro z M ⟨q1, q2⟩
      have qm : ∀ k, k ≠ 54 → M k = m k := fun k hk => by rw [q1 k hk, hm k hk]
      rcases q2 with ⟨rfl, q3, q4, q5⟩ | ⟨rfl, q3⟩
      · exact ⟨fun _ => ⟨by omega, 6 - (r + 1), by omega, rfl, rfl, rfl, qm, r + 1, i + n, by omega, by omega, by omega, by omega, q3, q4, q5, rfl⟩, fun h => absurd h (by decide)⟩
      · exact ⟨fun h => absurd rfl h, fun _ => ⟨Or.inl rfl, qm, Or.inr ⟨rfl, q3⟩⟩⟩
end OPL
