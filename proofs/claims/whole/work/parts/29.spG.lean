section SPG
variable {l : Launch} {g : am_G} {mem : am_Mem} {t : Int}
def rl_deedok (mem : am_Mem) : Prop := (0 ≤ mem 40 1 ∧ mem 40 1 < 30) ∧ (0 ≤ mem 40 2 ∧ mem 40 2 ≤ 30)
theorem rl_push_ok (h : rl_deedok mem) : rl_deedok (rl_push mem) := by
  obtain ⟨⟨a, b⟩, c, d⟩ := h
  show (0 ≤ (mem 40 1 + 1) % 30 ∧ (mem 40 1 + 1) % 30 < 30) ∧ (0 ≤ min (mem 40 2 + 1) 30 ∧ min (mem 40 2 + 1) 30 ≤ 30)
  omega
theorem rl_X_cg {m m' : am_Mem} (hX : rl_X t m) (h29 : m' 29 = m 29) (h30 : m' 30 = m 30) (h31 : m' 31 = m 31) (h32 : m' 32 = m 32) (h33 : m' 33 = m 33) (h34 : m' 34 = m 34) (h35 : m' 35 = m 35) (h36 : m' 36 = m 36) (h37 : m' 37 = m 37) (h38 : m' 38 = m 38) (h39 : m' 39 = m 39) : rl_X t m' := by
  have e : rl_xw m' = rl_xw m := by funext k; simp only [rl_xw, h36, h37, h38, h39]
  have e2 : rl_am m' = rl_am m := by simp only [rl_am, h29, h33]
  unfold rl_X
  rw [e, e2, h29]
  refine ⟨?_, hX.2⟩
  have := hX.1
  unfold rl_P rl_pc rl_pr at *
  rw [h29, h30, h31, h32, h33, h34, h35]
  exact this
theorem rl_X_push (hX : rl_X t mem) : rl_X t (rl_push mem) := rl_X_cg hX rfl rfl rfl rfl rfl rfl rfl rfl rfl rfl rfl
theorem rl_X_m1 {dr : Int} (hX : rl_X t mem) : rl_X t (rl_m1 mem dr) := by
  unfold rl_m1
  split
  · exact rl_X_push hX
  · exact rl_X_cg hX rfl rfl rfl rfl rfl rfl rfl rfl rfl rfl rfl
theorem rl_m1_am {dr : Int} : rl_am (rl_m1 mem dr) = rl_am mem ∧ rl_m1 mem dr 36 = mem 36 := by
  unfold rl_m1
  split <;> exact ⟨rfl, rfl⟩
/-- a mile driven: the state is sound -/
theorem rl_X_drv {own : Int} (hX : rl_X t mem) (hd : mem 36 1 < rl_am mem) (h0 : 10 ≤ own) (h7 : own ≤ 70) : rl_X t (rl_drv mem own) := by
  have h36 := rl_3600 h0 h7
  have hN := rl_X_now hX
  have p4 := hX.1.2.2.2.1
  refine ⟨hX.1, ⟨hN.1, ?_, ?_, hN.2.2.2.1, hN.2.2.2.2, fun c hc => ?_⟩⟩
  · show 0 ≤ mem 36 1 + 1 ∧ mem 36 1 + 1 ≤ rl_am mem; omega
  · show 0 ≤ mem 36 2 + 3600 / own ∧ mem 36 2 + 3600 / own ≤ 902000 + 360 * (mem 36 1 + 1); omega
  · have hc : (c : Int) < mem 29 4 := hc
    have h1 := rl_X_c hX hc
    have h2 := hX.1.2.2.2.2.2.1 c hc
    have h3 := rl_tb_bd (n := 1) (s := mem 39 c) h1.2.1.1 h1.2.1.2 h2.2.2.1 (by omega)
    rw [rl_xw5 _ (by omega), rl_xw9 _ (by omega), rl_xw13 _ (by omega)]
    have e38 : rl_drv mem own 38 c = rl_tb 1 (mem 38 c) (mem 39 c) (mem 32 c) := by
      show (if c < (mem 29 4).toNat then rl_tb 1 (mem 38 c) (mem 39 c) (mem 32 c) else mem 38 c) = _
      rw [if_pos (by omega)]
    have e39 : rl_drv mem own 39 c = mem 39 c + 1 := by
      show (if c < (mem 29 4).toNat then mem 39 c + 1 else mem 39 c) = _
      rw [if_pos (by omega)]
    rw [e38, e39]
    refine ⟨h1.1, h3, ?_⟩
    show 0 ≤ mem 39 c + 1 ∧ mem 39 c + 1 ≤ mem 36 1 + 1
    omega
theorem rl_X_lost (hX : rl_X t mem) : rl_X (t + 1) (rl_lost mem) := by
  have hN := rl_X_now hX
  have p4 := hX.1.2.2.2.1
  refine ⟨hX.1, ⟨hN.1, hN.2.1, hN.2.2.1, ?_, Or.inr rfl, fun c hc => ?_⟩⟩
  · show 0 ≤ mem 36 3 + 1 ∧ mem 36 3 + 1 ≤ t + 1; omega
  · have hc : (c : Int) < mem 29 4 := hc
    have h1 := rl_X_c hX hc
    rw [rl_xw5 _ (by omega), rl_xw9 _ (by omega), rl_xw13 _ (by omega)]
    exact h1
theorem rl_X_mono {t' : Int} (h : t ≤ t') (hX : rl_X t mem) : rl_X t' mem := by
  obtain ⟨h1, a, b, c, d, e, f⟩ := hX
  exact ⟨h1, a, b, c, ⟨d.1, by omega⟩, e, f⟩
theorem rl_dr_lt (s : Int) : 0 ≤ rl_dr s / 65536 % 11 ∧ rl_dr s / 65536 % 11 ≤ 10 := by omega
theorem rl_mo_bd {dr : Int} : 0 ≤ rl_mo mem dr ∧ rl_mo mem dr ≤ 10 := by
  unfold rl_mo
  split
  · omega
  · exact rl_dr_lt _
theorem rl_ow_bd {pa : Int} (hX : rl_X t mem) (hd : mem 36 1 < rl_am mem) (hp : 10 ≤ pa) (hp' : pa ≤ 70) : 10 ≤ min pa (mem 34 (rl_ro mem)) ∧ min pa (mem 34 (rl_ro mem)) ≤ 70 := by
  have := (hX.1.2.2.2.2.2.2.1 _ (rl_ro_in hX hd).2).2.1
  omega
/-- what travel does -/
def rl_Qv (mem : am_Mem) (n pa dr : Int) : am_Po := fun z m => if 1 ≤ n ∧ n ≤ 30 ∧ 10 ≤ pa ∧ pa ≤ 70 then (if ¬ mem 29 0 = 0 ∧ mem 36 4 = 0 ∧ mem 36 1 < rl_am mem then rl_go pa dr (min n (rl_am mem - mem 36 1)).toNat mem z m else z = -1000000003 ∧ m = mem) else z = -1000000002 ∧ m = mem
theorem sp_travel_go {pa dr n : Int} (hX : rl_X t mem) (hD : rl_deedok mem) (hs : 0 ≤ mem 17 10 ∧ mem 17 10 ≤ 2147483647) (ht : t ≤ 900) (hdr : dr = 0 ∨ dr = 1) :
    am_Mt l g 81 [.inr (.inl 17), .inl n, .inl pa, .inl dr] mem (rl_Qv mem n pa dr) := by
  have hN := rl_X_now hX
  have ha := rl_am_bd hX.1
  refine fm_X9_travel (fun k v1 v2 v3 v4 v5 m => v1 = n ∧ v2 = pa ∧ v3 = dr ∧ (1 ≤ n ∧ n ≤ 30 ∧ 10 ≤ pa ∧ pa ≤ 70) ∧ (¬ mem 29 0 = 0 ∧ mem 36 4 = 0 ∧ mem 36 1 < rl_am mem) ∧ v4 = min n (rl_am mem - mem 36 1) ∧ 0 ≤ v5 ∧ v5 ≤ v4 ∧ (rl_X t m ∧ rl_deedok m ∧ (0 ≤ m 17 10 ∧ m 17 10 ≤ 2147483647) ∧ rl_am m = rl_am mem ∧ m 36 1 = mem 36 1 + v5) ∧ (∀ z' m', rl_go pa dr (v4 - v5).toNat m z' m' → rl_go pa dr v4.toNat mem (z' + v5) m') ∧ k = (v4 - v5).toNat) ?_ ?_
  · refine am_cbe (sp_within n 1 30) (fun h1 => am_cbn (sp_isPace pa) (fun h2 => am_cbe sp_onTheRoof (fun h3 => am_cl (sp_milesLeft hX) ⟨fun h4 => am_cl (sp_milesLeft hX) (am_cl (sp_min _ _) ⟨_, rfl, rfl, rfl, rfl, ⟨h1.1, h1.2, h2.1, h2.2⟩, ⟨h3.1, h3.2, by omega⟩, rfl, by omega, by omega, ⟨hX, hD, hs, rfl, by omega⟩, fun z' m' hg => ?_, rfl⟩), fun h4 => ?_⟩) (fun h3 => ?_)) (fun h2 => ?_)) (fun h1 => ?_)
    · rw [Int.add_zero]; rw [Int.sub_zero] at hg; exact hg
    · unfold rl_Qv; rw [if_pos ⟨h1.1, h1.2, h2.1, h2.2⟩, if_neg (by omega)]; exact ⟨rfl, rfl⟩
    · unfold rl_Qv; rw [if_pos ⟨h1.1, h1.2, h2.1, h2.2⟩, if_neg (fun q => h3 ⟨q.1, q.2.1⟩)]; exact ⟨rfl, rfl⟩
    · unfold rl_Qv; rw [if_neg (fun q => h2 q.2.2)]; exact ⟨rfl, rfl⟩
    · unfold rl_Qv; rw [if_neg (fun q => h1 ⟨q.1, q.2.1⟩)]; exact ⟨rfl, rfl⟩
  · rintro k v1 v2 v3 v4 v5 m ⟨rfl, rfl, rfl, hc1, hc2, rfl, h5, h6, ⟨i1, i2, i3, i4, i5⟩, hgo, rfl⟩
    have hQ : ∀ z mm, rl_go v2 v3 (min v1 (rl_am mem - mem 36 1)).toNat mem z mm → rl_Qv mem v1 v2 v3 z mm := fun z mm hg => by unfold rl_Qv; rw [if_pos hc1, if_pos hc2]; exact hg
    have hstep : ∀ h : v5 < min v1 (rl_am mem - mem 36 1), (min v1 (rl_am mem - mem 36 1) - v5).toNat = (min v1 (rl_am mem - mem 36 1) - (v5 + 1)).toNat + 1 := fun h => by omega
    refine ⟨fun h => ?_, fun h => am_cl (sp_push i2.1.1 i2.1.2 i2.2.1 i2.2.2) ?_⟩
    · have := hgo 0 m (by rw [show (min v1 (rl_am mem - mem 36 1) - v5).toNat = 0 by omega]; exact ⟨rfl, rfl⟩)
      rw [show min v1 (rl_am mem - mem 36 1) = 0 + v5 by omega]
      rw [show min v1 (rl_am mem - mem 36 1) = v5 by omega] at this
      rw [show (0 : Int) + v5 = v5 by omega] at this ⊢
      refine hQ _ _ ?_
      rw [show min v1 (rl_am mem - mem 36 1) = v5 by omega]
      exact this
    · have hX1 := rl_X_m1 (dr := v3) i1
      have hdm : m 36 1 < rl_am m := by omega
      have ham := rl_m1_am (mem := m) (dr := v3)
      have hd1 : rl_m1 m v3 36 1 < rl_am (rl_m1 m v3) := by rw [ham.1, ham.2]; exact hdm
      have hmo := rl_mo_bd (mem := m) (dr := v3)
      have mile := sp_mile (l := l) (g := g) (pa := v2) (mo := rl_mo m v3) hX1 (by omega) hd1 hc1.2.2.1 hc1.2.2.2 hmo.1 hmo.2
      have hst := hstep h
      have fin : ∃ q : am_Po, am_Mt l g 12 [.inr (.inl 36), .inr (.inl 29), .inl v2, .inl (rl_mo m v3)] (rl_m1 m v3) q ∧ ∀ (z : Int) (mm : am_Mem), q z mm → ((¬ z = 0 → ((-2147483648 ≤ v5 + 1 ∧ v5 + 1 ≤ 2147483647) ∧ ∃ n' : Nat, n' < (min v1 (rl_am mem - mem 36 1) - v5).toNat ∧ (17 : Nat) = 17 ∧ v1 = v1 ∧ v2 = v2 ∧ v3 = v3 ∧ (1 ≤ v1 ∧ v1 ≤ 30 ∧ 10 ≤ v2 ∧ v2 ≤ 70) ∧ (¬ mem 29 0 = 0 ∧ mem 36 4 = 0 ∧ mem 36 1 < rl_am mem) ∧ min v1 (rl_am mem - mem 36 1) = min v1 (rl_am mem - mem 36 1) ∧ 0 ≤ v5 + 1 ∧ v5 + 1 ≤ min v1 (rl_am mem - mem 36 1) ∧ (rl_X t mm ∧ rl_deedok mm ∧ (0 ≤ mm 17 10 ∧ mm 17 10 ≤ 2147483647) ∧ rl_am mm = rl_am mem ∧ mm 36 1 = mem 36 1 + (v5 + 1)) ∧ (∀ z' m', rl_go v2 v3 (min v1 (rl_am mem - mem 36 1) - (v5 + 1)).toNat mm z' m' → rl_go v2 v3 (min v1 (rl_am mem - mem 36 1)).toNat mem (z' + (v5 + 1)) m') ∧ n' = (min v1 (rl_am mem - mem 36 1) - (v5 + 1)).toNat)) ∧ (z = 0 → rl_Qv mem v1 v2 v3 v5 mm)) := by
        refine am_cq mile (fun z mm hq => ⟨fun hz => ?_, fun hz => ?_⟩)
        · have hq1 : z = 1 := by
            rcases hq with ⟨_, a, _⟩ | ⟨_, a, _⟩
            · exact a
            · exact absurd a hz
          subst hq1
          have hm : mm = rl_drv (rl_m1 m v3) (min v2 (rl_m1 m v3 34 (rl_ro (rl_m1 m v3)))) := by
            rcases hq with ⟨_, _, a⟩ | ⟨_, a, _⟩
            · exact a
            · exact absurd a (by decide)
          have hob := rl_ow_bd hX1 hd1 hc1.2.2.1 hc1.2.2.2
          refine ⟨by omega, _, by omega, rfl, rfl, rfl, rfl, hc1, hc2, rfl, by omega, by omega, ⟨?_, ?_, ?_, ?_, ?_⟩, fun z' m' hg => ?_, rfl⟩
          · rw [hm]; exact rl_X_drv hX1 hd1 hob.1 hob.2
          · rw [hm]
            have : rl_deedok (rl_m1 m v3) := by
              unfold rl_m1; split
              · exact rl_push_ok i2
              · exact rl_push_ok i2
            exact this
          · rw [hm]
            show 0 ≤ rl_m1 m v3 17 10 ∧ rl_m1 m v3 17 10 ≤ 2147483647
            unfold rl_m1; split
            · exact i3
            · exact rl_dr_bd _
          · rw [hm]; show rl_am (rl_m1 m v3) = _; rw [ham.1, i4]
          · rw [hm]; show rl_m1 m v3 36 1 + 1 = _; rw [ham.2, i5]; omega
          · have := hgo (z' + 1) m' (by
              rw [hst]
              exact Or.inl ⟨mm, hq, by rw [show z' + 1 - 1 = z' by omega]; exact hg⟩)
            rw [show z' + (v5 + 1) = z' + 1 + v5 by omega]; exact this
        · subst hz
          have := hgo 0 mm (by
            rw [hst]
            exact Or.inr ⟨hq, rfl⟩)
          rw [Int.zero_add] at this
          exact hQ _ _ this
      refine ⟨fun h3 => ?_, fun h3 => am_cl (sp_nextDraw (mem := rl_push m) i3.1 i3.2) ?_⟩
      · have e1 : rl_m1 m v3 = rl_push m := by unfold rl_m1; rw [if_pos h3]
        have e2 : rl_mo m v3 = 0 := by unfold rl_mo; rw [if_pos h3]
        rw [e1, e2] at fin
        exact fin
      · have e1 : rl_m1 m v3 = am_up (rl_push m) 17 10 (rl_dr (m 17 10)) := by unfold rl_m1; rw [if_neg h3]
        have e2 : rl_mo m v3 = rl_dr (m 17 10) / 65536 % 11 := by unfold rl_mo; rw [if_neg h3]
        rw [e1, e2] at fin
        exact fin
end SPG
