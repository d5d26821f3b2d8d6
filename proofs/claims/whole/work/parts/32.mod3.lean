section M3
variable {l : Launch} {g : am_G} {mem : am_Mem} {t am : Int}
theorem mp_begin : am_Mt l g 133 [.inr (.inl 0)] mem (am_vq 0 (am_cp mem 8 0 9 0 17)) := fm_X10_begin (am_cl (mp_bring_now_tried (i := 0) (j := 0) (n := 17) rfl rfl rfl (by omega) (by omega)) ⟨rfl, rfl⟩)
/-- a deed is noted -/
def rl_note (mem : am_Mem) : am_Mem := if mem 0 24 = 30 then am_cp (am_cp mem 10 17 10 0 493) 8 0 10 493 17 else am_up (am_cp mem 8 0 10 (17 * (mem 0 24).toNat) 17) 0 24 (mem 0 24 + 1)
theorem mp_note (h0 : 0 ≤ mem 0 24) (h1 : mem 0 24 ≤ 30) : am_Mt l g 118 [.inr (.inl 0)] mem (am_vq 0 (rl_note mem)) := by
  refine fm_X10_note ⟨fun h => ⟨by omega, am_cl (mp_bring_now_backOf (i := 0) (j := 17 * (mem 0 24).toNat) (n := 17) rfl (by omega) rfl (by omega) (by omega)) ⟨?_, rfl, ?_⟩⟩, fun h => am_cl (mp_bring_backOf_backOf (i := 17) (j := 0) (n := 493) rfl rfl rfl (by omega) (by omega) (by omega)) ?_⟩
  · show _ ≤ mem 0 24 + 1 ∧ mem 0 24 + 1 ≤ _; omega
  · unfold rl_note; rw [if_neg h]; rfl
  · have e1 : am_cp mem 10 17 10 0 493 0 24 = mem 0 24 := rfl
    have e2 : am_up (am_cp mem 10 17 10 0 493) 0 24 (am_cp mem 10 17 10 0 493 0 24 - 1) 0 24 = mem 0 24 - 1 := rfl
    try rw [e2]
    try rw [e1]
    refine ⟨by omega, by omega, am_cl (mp_bring_now_backOf (i := 0) (j := 493) (n := 17) rfl (by omega) rfl (by omega) (by omega)) ⟨?_, rfl, ?_⟩⟩
    · show _ ≤ mem 0 24 - 1 + 1 ∧ mem 0 24 - 1 + 1 ≤ _; omega
    · unfold rl_note; rw [if_pos h]
      funext k i
      simp only [am_up, am_cp]
      by_cases hk : k = 0
      · subst hk
        by_cases hi : i = 24
        · subst hi; simp [h]
        · simp [hi]
      · simp [hk]
theorem mp_canGo (hP : rl_MP mem) (h1 : 0 ≤ mem 8 1) (h2 : mem 8 1 ≤ 1000) : am_Mt l g 121 [.inr (.inl 0)] mem (am_bq (¬ mem 0 15 = 0 ∧ mem 8 4 = 0 ∧ mem 8 1 < rl_mam mem) mem) := by
  refine fm_X10_canGo ?_
  repeat' first
    | refine am_R0 (am_b0 (by omega))
    | refine am_R1 (am_b1 (by omega))
    | refine am_cl (mp_allMiles hP) ?_
    | refine ⟨fun _ => ?_, fun _ => ?_⟩
    | refine ⟨by omega, ?_⟩
theorem mp_draw (h0 : 0 ≤ mem 0 28) (h1 : mem 0 28 ≤ 2147483647) : am_Mt l g 128 [.inr (.inl 0), .inl 11] mem (am_vq (rl_dr (mem 0 28) / 65536 % 11) (am_up mem 0 28 (rl_dr (mem 0 28)))) := by
  have hb := rl_dr_bd (mem 0 28)
  refine fm_X10_draw ⟨by omega, by omega, by omega, by omega, ?_⟩
  exact ⟨by omega, by omega, fun _ => ⟨rfl, rfl⟩, fun h => by omega⟩
end M3
