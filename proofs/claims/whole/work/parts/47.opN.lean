section OPN
variable {l : Launch} {g : am_G} {mem mm : am_Mem} {t : Int}
theorem rl_pre_V {L : Nat} {m m' : am_Mem} (hp : rl_pre mem m L) (hm : ∀ k, k ≠ 54 → m' k = m k) : rl_V mem m' := ⟨fun k a1 _ _ => by rw [hm k (by omega), hp.1 k a1], fun j _ _ => by rw [hm 0 (by omega), hp.1 0 (by omega)]⟩
theorem rl_pre_54 {L : Nat} {m m' : am_Mem} (hp : rl_pre mem m L) (hm : ∀ k, k ≠ 54 → m' k = m k) : rl_pre mem m' L := ⟨fun k hk => by rw [hm k (by omega), hp.1 k hk], fun q hq => by rw [hm 55 (by omega), hm 56 (by omega), hm 57 (by omega), hm 58 (by omega)]; exact hp.2 q hq⟩
theorem op_stops {p a : Int} (hR : rl_R t mem mem) (ht : t ≤ 700) : am_Mt l g 64 [.inr (.inl 17), .inl p, .inl a] mem (rl_Q1 l g 137 [.inr (.inl 0), .inl p, .inl a] t) := by
  have R1 := rl_R1 hR
  have hX := hR.1
  have hN := rl_X_now hX
  have ha := rl_am_bd hX.1
  have b0 := hR.2.1.1
  obtain ⟨c0, c1, c2, c3, c4, cc⟩ := rl_he hR
  refine fm_X9_stops (am_cbe (sp_isPace p) (fun h1 => am_cbn (sp_within a 0 1) (fun h2 => am_cbn sp_onTheRoof (fun h3 => am_cl (sp_milesLeft hX) (am_cq (sp_prepare hX (by omega) (by omega)) ?_)) (fun h3 => ?_)) (fun h2 => ?_)) (fun h1 => ?_))
  · intro z m hp
    obtain ⟨L, hL⟩ : ∃ L : Nat, (L : Int) = rl_am mem - mem 36 1 := ⟨(rl_am mem - mem 36 1).toNat, by omega⟩
    rw [← hL, Int.toNat_natCast] at hp
    rw [show m 36 1 = mem 36 1 by rw [hp.1 36 (by omega)]]
    refine am_cq (sp_goes hX hp hL h1) ?_
    rintro z17 m18 ⟨q1, q2⟩
    have hV := rl_pre_V hp q1
    have key : ∀ z, (∀ z' m', rl_Qls mem p L z' m' → ((¬ z' = 0 → ((¬ a = 0 → rl_Q2 t z (m' 0 35) m') ∧ (a = 0 → rl_Q2 t z (m' 0 34) m'))) ∧ (z' = 0 → rl_Q2 t z (-2) m'))) → am_Mt l g 137 [.inr (.inl 0), .inl p, .inl a] m18 (rl_Q2 t z) := fun z hz =>
      fm_X10_stops (am_cbe (mp_in p 10 70) (fun _ => am_cbn (mp_in a 0 1) (fun _ => ⟨fun h => absurd (show mem 0 15 = 0 by rw [← hV.2 15 (by omega) (by omega)]; exact h) (by omega), fun _ => ⟨by omega, fun _ => am_cq (mp_layStops hR ht hV h1 hL) hz, fun h => absurd (show mem 8 4 = 1 by rw [← hV.1 8 (by omega) (by omega) (by omega)]; exact h) (by omega)⟩⟩) (fun h => absurd h2 h)) (fun h => absurd h1 h))
    rcases q2 with ⟨rfl, ⟨pa, q3⟩, q4⟩ | ⟨rfl, j, q3, q4⟩
    · have k1 : ∀ z' m', rl_Qls mem p L z' m' → z' = 1 ∧ m' 0 34 = m18 54 7 ∧ m' 0 35 = m18 54 8 ∧ rl_R (t + 1) m' m' := fun z' m' hq => by
        obtain ⟨hV', q⟩ := hq
        rcases q with ⟨rfl, ⟨pa', e1⟩, _⟩ | ⟨_, j, e1, e2⟩
        · obtain ⟨_, e2, e3⟩ := rl_ri_un _ _ _ _ _ _ _ q3 e1
          exact ⟨rfl, e2, e3, rl_V_R R1 hV'⟩
        · exact absurd e2 (rl_ri_nf _ _ _ _ q3 j e1)
      refine ⟨fun _ => ⟨fun h5 => key _ (fun z' m' hq => ?_), fun h5 => key _ (fun z' m' hq => ?_)⟩, fun h => absurd h (by decide)⟩
      · obtain ⟨e1, e2, e3, e4⟩ := k1 z' m' hq
        exact ⟨fun _ => ⟨fun _ => ⟨e3, e4⟩, fun h => absurd h h5⟩, fun h => by omega⟩
      · obtain ⟨e1, e2, e3, e4⟩ := k1 z' m' hq
        exact ⟨fun _ => ⟨fun h => absurd h5 h, fun _ => ⟨e2, e4⟩⟩, fun h => by omega⟩
    · refine ⟨fun h => absurd rfl h, fun _ => key _ (fun z' m' hq => ?_)⟩
      obtain ⟨hV', q⟩ := hq
      rcases q with ⟨rfl, ⟨pa', e1⟩, _⟩ | ⟨rfl, _⟩
      · exact absurd q4 (rl_ri_nf _ _ _ _ e1 j q3)
      · exact ⟨fun h => absurd rfl h, fun _ => ⟨rfl, rl_V_R R1 hV'⟩⟩
  · exact fm_X10_stops (am_cbe (mp_in p 10 70) (fun _ => am_cbn (mp_in a 0 1) (fun _ => ⟨fun _ => ⟨rfl, R1⟩, fun h => ⟨by omega, fun h' => absurd ⟨by omega, by omega⟩ h3, fun _ => ⟨rfl, R1⟩⟩⟩) (fun h => absurd h2 h)) (fun h => absurd h1 h))
  · exact fm_X10_stops (am_cbe (mp_in p 10 70) (fun _ => am_cbn (mp_in a 0 1) (fun h => absurd h h2) (fun _ => ⟨rfl, R1⟩)) (fun h => absurd h1 h))
  · exact fm_X10_stops (am_cbe (mp_in p 10 70) (fun h => absurd h h1) (fun _ => ⟨rfl, R1⟩))
/-- the soonest -/
def rl_so (mem : am_Mem) (L : Nat) : Nat → Int → Int → Prop
  | 0, b, s => b = -1 ∧ s = -1
  | k + 1, b, s => ∃ b0 s0, rl_so mem L k b0 s0 ∧ (((∃ j, j < L ∧ rl_rf mem (10 + (k : Int)) j) ∧ b = b0 ∧ s = s0) ∨ (∃ pa pu fi, rl_ri mem (10 + (k : Int)) L pa pu fi ∧ (((b0 = -1 ∨ rl_se mem (10 + (k : Int)) L + pu * mem 29 3 < s0) ∧ b = 10 + (k : Int) ∧ s = rl_se mem (10 + (k : Int)) L + pu * mem 29 3) ∨ (¬ b0 = -1 ∧ s0 ≤ rl_se mem (10 + (k : Int)) L + pu * mem 29 3 ∧ b = b0 ∧ s = s0))))
theorem rl_so_un {L : Nat} : ∀ (k : Nat) (b s b' s' : Int), rl_so mem L k b s → rl_so mem L k b' s' → b' = b ∧ s' = s
  | 0, b, s, b', s', h, h' => ⟨by rw [h.1, h'.1], by rw [h.2, h'.2]⟩
  | k + 1, b, s, b', s', h, h' => by
    obtain ⟨b0, s0, h1, h2⟩ := h
    obtain ⟨b0', s0', h1', h2'⟩ := h'
    obtain ⟨rfl, rfl⟩ := rl_so_un k _ _ _ _ h1 h1'
    rcases h2 with ⟨⟨j, j1, j2⟩, q⟩ | ⟨pa, pu, fi, p1, p2⟩
    · rcases h2' with ⟨_, q'⟩ | ⟨pa', pu', fi', p1', p2'⟩
      · omega
      · exact absurd j2 (rl_ri_nf _ _ _ _ p1' j j1)
    · rcases h2' with ⟨⟨j, j1, j2⟩, q'⟩ | ⟨pa', pu', fi', p1', p2'⟩
      · exact absurd j2 (rl_ri_nf _ _ _ _ p1 j j1)
      · obtain ⟨rfl, rfl, rfl⟩ := rl_ri_un _ _ _ _ _ _ _ p1 p1'
        omega
theorem rl_so_bd {L : Nat} : ∀ (k : Nat) (b s : Int), rl_so mem L k b s → (b = -1 ∧ s = -1) ∨ 10 ≤ b
  | 0, b, s, h => Or.inl h
  | k + 1, b, s, h => by
    obtain ⟨b0, s0, h1, h2⟩ := h
    have := rl_so_bd k _ _ h1
    rcases h2 with ⟨_, q⟩ | ⟨pa, pu, fi, p1, p2⟩ <;> omega
def rl_JM (mem : am_Mem) (a : Int) (L : Nat) : Nat → Int → Int → Int → Int → am_Mem → Prop := fun n v1 v2 v3 v4 m => v1 = a ∧ rl_V mem m ∧ ∃ (k : Nat) (s : Int), v4 = 10 + (k : Int) ∧ k ≤ 61 ∧ rl_so mem L k v2 s ∧ (¬ v2 = -1 → v3 = s) ∧ n = 61 - k
theorem mp_soonest {a z b s : Int} {L : Nat} (hR : rl_R t mem mem) (ht : t ≤ 700) (hV : rl_V mem mm) (hL : (L : Int) = rl_am mem - mem 36 1) (h0 : ¬ mem 29 0 = 0) (h4 : mem 36 4 = 0) (ha : 0 ≤ a ∧ a ≤ 1) (hs : rl_so mem L 61 b s) (hz : (a = 0 → z = b) ∧ (¬ a = 0 → z = s)) : am_Mt l g 138 [.inr (.inl 0), .inl a] mm (rl_Q2 t z) := by
  have R1 := rl_R1 hR
  have b0 := hR.2.1.1
  obtain ⟨c0, c1, c2, c3, c4, cc⟩ := rl_he hR
  refine fm_X10_soonest (rl_JM mem a L) (am_cbn (mp_in a 0 1) (fun _ => ⟨fun h => absurd (show mem 0 15 = 0 by rw [← hV.2 15 (by omega) (by omega)]; exact h) (by omega), fun _ => ⟨by omega, fun _ => ⟨61, rfl, rfl, hV, 0, -1, rfl, by omega, ⟨rfl, rfl⟩, fun h => absurd rfl h, rfl⟩, fun h => absurd (show mem 8 4 = 1 by rw [← hV.1 8 (by omega) (by omega) (by omega)]; exact h) (by omega)⟩⟩) (fun h => absurd ha h)) ?_
  rintro n v1 v2 v3 v4 m ⟨rfl, hVm, k, s', rfl, hk, hso, hv3, rfl⟩
  have hbd := rl_so_bd _ _ _ hso
  refine ⟨fun h => ?_, fun h => am_cq (mp_layStops hR ht hVm ⟨by omega, by omega⟩ hL) ?_⟩
  · have ek : k = 61 := by omega
    subst ek
    obtain ⟨rfl, rfl⟩ := rl_so_un _ _ _ _ _ hs hso
    have R2 := rl_V_R R1 hVm
    refine ⟨fun h1 => ⟨?_, R2⟩, fun h1 => ⟨fun h2 => ⟨?_, R2⟩, fun h2 => ⟨?_, R2⟩⟩⟩
    · by_cases e : v1 = 0
      · rw [hz.1 e]
      · rw [hz.2 e]; omega
    · rw [hv3 h1, hz.2 h2]
    · rw [hz.1 h2]
  · rintro z' m' ⟨hV', q⟩
    have go : ∀ w2 w3 s2, rl_so mem L (k + 1) w2 s2 → (¬ w2 = -1 → w3 = s2) → (-2147483648 ≤ 10 + (k : Int) + 1 ∧ 10 + (k : Int) + 1 ≤ 2147483647) ∧ ∃ n' : Nat, n' < 61 - k ∧ (0 : Nat) = 0 ∧ rl_JM mem v1 L n' v1 w2 w3 (10 + (k : Int) + 1) m' := fun w2 w3 s2 e1 e2 =>
      ⟨by omega, 61 - (k + 1), by omega, rfl, rfl, hV', k + 1, s2, by omega, by omega, e1, e2, rfl⟩
    rcases q with ⟨rfl, ⟨pa, e1⟩, e2⟩ | ⟨rfl, e1⟩
    · refine ⟨fun h => absurd h (by decide), fun _ => ⟨fun h1 => ⟨by omega, ?_⟩, fun h1 => ⟨by omega, fun h2 => ?_, fun h2 => ⟨by omega, ?_⟩⟩⟩⟩
      · exact go _ _ _ ⟨v2, s', hso, Or.inr ⟨_, _, _, e1, Or.inl ⟨Or.inl h1, rfl, rfl⟩⟩⟩ (fun _ => e2)
      · have e3 := hv3 h1
        exact go _ _ _ ⟨v2, s', hso, Or.inr ⟨_, _, _, e1, Or.inr ⟨h1, by omega, rfl, rfl⟩⟩⟩ hv3
      · have e3 := hv3 h1
        exact go _ _ _ ⟨v2, s', hso, Or.inr ⟨_, _, _, e1, Or.inl ⟨Or.inr (by omega), rfl, rfl⟩⟩⟩ (fun _ => e2)
    · exact ⟨fun _ => go _ _ _ ⟨v2, s', hso, Or.inl ⟨e1, rfl, rfl⟩⟩ hv3, fun h => absurd rfl h⟩
def rl_JK (mem : am_Mem) (a : Int) (L : Nat) : Nat → Int → Int → Int → Int → am_Mem → Prop := fun n v1 v2 v3 v4 m => v1 = a ∧ (0 ≤ a ∧ a ≤ 1) ∧ (¬ mem 29 0 = 0 ∧ mem 36 4 = 0) ∧ rl_pre mem m L ∧ ∃ k : Nat, v4 = 10 + (k : Int) ∧ k ≤ 61 ∧ rl_so mem L k v2 v3 ∧ n = 61 - k
theorem op_soonest {a : Int} (hR : rl_R t mem mem) (ht : t ≤ 700) : am_Mt l g 65 [.inr (.inl 17), .inl a] mem (rl_Q1 l g 138 [.inr (.inl 0), .inl a] t) := by
  have R1 := rl_R1 hR
  have hX := hR.1
  have hN := rl_X_now hX
  have ha := rl_am_bd hX.1
  have b0 := hR.2.1.1
  obtain ⟨c0, c1, c2, c3, c4, cc⟩ := rl_he hR
  obtain ⟨L, hL⟩ : ∃ L : Nat, (L : Int) = rl_am mem - mem 36 1 := ⟨(rl_am mem - mem 36 1).toNat, by omega⟩
  refine fm_X9_soonest (rl_JK mem a L) (am_cbn (sp_within a 0 1) (fun h2 => am_cbn sp_onTheRoof (fun h3 => am_cl (sp_milesLeft hX) (am_cq (sp_prepare hX (by omega) (by omega)) ?_)) (fun h3 => ?_)) (fun h2 => ?_)) ?_
  · intro z m hp
    rw [← hL, Int.toNat_natCast] at hp
    exact ⟨61, rfl, rfl, h2, h3, hp, 0, rfl, by omega, ⟨rfl, rfl⟩, rfl⟩
  · exact fm_X10_soonest (fun _ _ _ _ _ _ => False) (am_cbn (mp_in a 0 1) (fun _ => ⟨fun _ => ⟨rfl, R1⟩, fun h => ⟨by omega, fun h' => absurd ⟨by omega, by omega⟩ h3, fun _ => ⟨rfl, R1⟩⟩⟩) (fun h => absurd h2 h)) (fun _ _ _ _ _ _ h => h.elim)
  · exact fm_X10_soonest (fun _ _ _ _ _ _ => False) (am_cbn (mp_in a 0 1) (fun h => absurd h h2) (fun _ => ⟨rfl, R1⟩)) (fun _ _ _ _ _ _ h => h.elim)
  · rintro n v1 v2 v3 v4 m ⟨rfl, h2, h3, hp, k, rfl, hk, hso, rfl⟩
    rw [show m 36 1 = mem 36 1 by rw [hp.1 36 (by omega)]]
    refine ⟨fun h => ?_, fun h => am_cq (sp_goes hX hp hL ⟨by omega, by omega⟩) ?_⟩
    · have ek : k = 61 := by omega
      subst ek
      have hV := rl_pre_V hp (fun _ _ => rfl)
      exact ⟨fun h1 => mp_soonest hR ht hV hL h3.1 h3.2 h2 hso ⟨fun e => absurd e h1, fun _ => rfl⟩, fun h1 => mp_soonest hR ht hV hL h3.1 h3.2 h2 hso ⟨fun _ => rfl, fun e => absurd h1 e⟩⟩
    · rintro z m' ⟨q1, q2⟩
      have hp' := rl_pre_54 hp q1
      have go : ∀ w2 w3, rl_so mem L (k + 1) w2 w3 → (-2147483648 ≤ 10 + (k : Int) + 1 ∧ 10 + (k : Int) + 1 ≤ 2147483647) ∧ ∃ n' : Nat, n' < 61 - k ∧ (17 : Nat) = 17 ∧ rl_JK mem v1 L n' v1 w2 w3 (10 + (k : Int) + 1) m' := fun w2 w3 e1 =>
        ⟨by omega, 61 - (k + 1), by omega, rfl, rfl, h2, h3, hp', k + 1, by omega, by omega, e1, rfl⟩
      rcases q2 with ⟨rfl, ⟨pa, e1⟩, e2⟩ | ⟨rfl, e1⟩
      · rw [e2]
        refine ⟨fun h => absurd h (by decide), fun _ => ⟨fun h1 => ?_, fun h1 => ⟨fun h5 => ?_, fun h5 => ?_⟩⟩⟩
        · exact go _ _ ⟨v2, v3, hso, Or.inr ⟨_, _, _, e1, Or.inl ⟨Or.inl h1, rfl, rfl⟩⟩⟩
        · exact go _ _ ⟨v2, v3, hso, Or.inr ⟨_, _, _, e1, Or.inr ⟨h1, h5, rfl, rfl⟩⟩⟩
        · exact go _ _ ⟨v2, v3, hso, Or.inr ⟨_, _, _, e1, Or.inl ⟨Or.inr h5, rfl, rfl⟩⟩⟩
      · exact ⟨fun _ => go _ _ ⟨v2, v3, hso, Or.inl ⟨e1, rfl, rfl⟩⟩, fun h => absurd rfl h⟩
end OPN
