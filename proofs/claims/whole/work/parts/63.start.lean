/-! what both constructors leave, as the machine's memory; class and reference stand for one state there -/
def st_mem : am_Mem := fun k j => bif (Nat.beq k 17 && Nat.beq j 9) then -1 else bif (Nat.beq k 0 && Nat.beq j 7) then -1 else bif (Nat.beq k 20 && Nat.beq j 3) then -1 else bif (Nat.beq k 54 && (Nat.beq j 6 || Nat.beq j 8)) then -1 else 0
def st_ad (mq : Nat) (ma : Nat → Nat) (xq : Nat) (xa : Nat → Nat) (b0 b1 b : Nat) : Nat → Nat := fun k => bif Nat.beq k 0 then mq else bif Nat.blt k 17 then ma (k - 1) else bif Nat.beq k 17 then xq else bif Nat.blt k 63 then xa (k - 18) else bif Nat.beq k 63 then b0 else bif Nat.beq k 64 then b1 else b
set_option maxRecDepth 100000 in
set_option maxHeartbeats 4000000 in
theorem st_wo (d : cn_G) (mq : Nat) (ma : Nat → Nat) (xq : Nat) (xa : Nat → Nat) (b0 b1 b : Nat) : am_wo (d.1, st_ad mq ma xq xa b0 b1 b, d.2.1, d.2.2) st_mem = out_X10 d mq ma ++ out_X9 d xq xa := rfl
theorem st_okm : am_okm st_mem := fun k j => by
  have h1 : am_inR (-1) := ⟨by decide, by decide⟩
  unfold st_mem
  cases (Nat.beq k 17 && Nat.beq j 9)
  · cases (Nat.beq k 0 && Nat.beq j 7)
    · cases (Nat.beq k 20 && Nat.beq j 3)
      · cases (Nat.beq k 54 && (Nat.beq j 6 || Nat.beq j 8))
        · exact am_in0
        · exact h1
      · exact h1
    · exact h1
  · exact h1
theorem st_P {D : va_G} {cl : List vw_C} {w1 w2 : va_W} {H : Heap} (h : va_P D cl (w1 ++ w2) H) : va_P D cl (w2 ++ w1) H := by
  refine va_P.app (fun k q hk => h (w1.length + k) q ?_) (fun k q hk => h k q ?_)
  · rw [List.getElem?_append_right (by omega), Nat.add_sub_cancel_left]; exact hk
  · rw [List.getElem?_append_left (List.getElem?_eq_some_iff.mp hk).1]; exact hk
theorem st_D {A : Nat → Prop} {w1 w2 : va_W} (h : va_D A (w1 ++ w2)) : va_D A (w2 ++ w1) := by
  have l1 : ∀ (k : Nat) (q : Nat × va_E), w1[k]? = some q → (w1 ++ w2)[k]? = some q := fun k q hk => by
    rw [List.getElem?_append_left (List.getElem?_eq_some_iff.mp hk).1]; exact hk
  have l2 : ∀ (k : Nat) (q : Nat × va_E), w2[k]? = some q → (w1 ++ w2)[w1.length + k]? = some q := fun k q hk => by
    rw [List.getElem?_append_right (by omega), Nat.add_sub_cancel_left]; exact hk
  refine va_D.app ⟨fun i j x y hx hy hxy => ?_, fun k q hk => h.2 _ q (l2 k q hk)⟩ ⟨fun i j x y hx hy hxy => h.1 i j x y (l1 i x hx) (l1 j y hy) hxy, fun k q hk => h.2 _ q (l1 k q hk)⟩ (fun i j x y hx hy hxy => ?_)
  · have := h.1 _ _ x y (l2 i x hx) (l2 j y hy) hxy
    omega
  · have := h.1 _ _ x y (l2 i x hx) (l1 j y hy) hxy
    have h1 := (List.getElem?_eq_some_iff.mp hy).1
    omega
theorem st_inj {g : am_G} {mem : am_Mem} {A : Nat → Prop} (h : va_D A (am_wo g mem)) : am_inj g ∧ ∀ k, k < 63 → A (g.2.1 k) := by
  have key : ∀ k, k < 63 → ∃ e, (am_wo g mem)[k]? = some (g.2.1 k, e) := fun k hk => by
    have h63 : am_SHL.length = 63 := by decide +kernel
    have hs : am_SH k = some (am_SHL[k]'(by omega)) := List.getElem?_eq_getElem _
    exact ⟨_, am_wo_get g mem hs⟩
  refine ⟨fun i j hi hj e => ?_, fun k hk => ?_⟩
  · obtain ⟨x, hx⟩ := key i hi
    obtain ⟨y, hy⟩ := key j hj
    exact h.1 i j _ _ hx hy e
  · obtain ⟨x, hx⟩ := key k hk
    exact h.2 k _ hx
theorem st_z {k : Nat} (h1 : k ≠ 17) (h2 : k ≠ 0) (h3 : k ≠ 20) (h4 : k ≠ 54) (j : Nat) : st_mem k j = 0 := by
  unfold st_mem
  have e1 : Nat.beq k 17 = false := by cases h : Nat.beq k 17 with | false => rfl | true => exact absurd (am_beq h) h1
  have e2 : Nat.beq k 0 = false := by cases h : Nat.beq k 0 with | false => rfl | true => exact absurd (am_beq h) h2
  have e3 : Nat.beq k 20 = false := by cases h : Nat.beq k 20 with | false => rfl | true => exact absurd (am_beq h) h3
  have e4 : Nat.beq k 54 = false := by cases h : Nat.beq k 54 with | false => rfl | true => exact absurd (am_beq h) h4
  rw [e1, e2, e3, e4]; rfl
theorem st_xw (k : Nat) : rl_xw st_mem k = 0 := by
  unfold rl_xw
  split
  · exact st_z (by decide) (by decide) (by decide) (by decide) _
  · split
    · exact st_z (by decide) (by decide) (by decide) (by decide) _
    · split
      · exact st_z (by decide) (by decide) (by decide) (by decide) _
      · exact st_z (by decide) (by decide) (by decide) (by decide) _
theorem st_am : rl_am st_mem = 0 := rfl
/-- a row of noughts is a good row -/
theorem st_rok {w : Nat → Int} (h : ∀ k, w k = 0) : rl_rok 0 0 0 w := by
  have h0 := h 0
  have h1 := h 1
  have h2 := h 2
  have h3 := h 3
  exact ⟨⟨by omega, by omega⟩, ⟨by omega, by omega⟩, ⟨by omega, by omega⟩, ⟨by omega, by omega⟩, Or.inl (h 4), fun c hc => by omega⟩
theorem st_R : rl_R 0 st_mem st_mem := by
  have z29 : ∀ j, st_mem 29 j = 0 := st_z (by decide) (by decide) (by decide) (by decide)
  have z5 : ∀ j, st_mem 5 j = 0 := st_z (by decide) (by decide) (by decide) (by decide)
  have z8 : ∀ j, st_mem 8 j = 0 := st_z (by decide) (by decide) (by decide) (by decide)
  have z40 : ∀ j, st_mem 40 j = 0 := st_z (by decide) (by decide) (by decide) (by decide)
  have z45 : ∀ j, st_mem 45 j = 0 := st_z (by decide) (by decide) (by decide) (by decide)
  have z13 : ∀ j, st_mem 13 j = 0 := st_z (by decide) (by decide) (by decide) (by decide)
  have z46 : ∀ j, st_mem 46 j = 0 := st_z (by decide) (by decide) (by decide) (by decide)
  have z51 : ∀ j, st_mem 51 j = 0 := st_z (by decide) (by decide) (by decide) (by decide)
  have z18 : ∀ j, st_mem 18 j = 0 := st_z (by decide) (by decide) (by decide) (by decide)
  have m0 : ∀ j, j ≠ 7 → st_mem 0 j = 0 := fun j hj => by
    unfold st_mem
    have e1 : Nat.beq j 7 = false := by cases h : Nat.beq j 7 with | false => rfl | true => exact absurd (am_beq h) hj
    rw [e1]; rfl
  refine ⟨⟨⟨Or.inl (z29 0), ?_, ?_, ?_, ?_, ?_, ?_, fun _ => ⟨z29 4, z29 5⟩⟩, ?_⟩, ⟨?_, ?_, ?_, ?_, ?_, ?_, ?_⟩, ⟨?_, ?_⟩, ⟨⟨?_, ?_⟩, ?_, ?_⟩, ?_, ⟨⟨?_, ?_⟩, ?_, ?_⟩, ⟨?_, ?_, ?_⟩, ⟨?_, ?_, ?_⟩, ⟨rfl, rfl, by rw [m0 28 (by decide)]; omega, by rw [m0 28 (by decide)]; omega⟩⟩
  · rw [z29]; omega
  · rw [z29]; omega
  · rw [z29]; omega
  · rw [z29]; omega
  · intro c hc; rw [z29] at hc; omega
  · intro c hc; rw [z29] at hc; omega
  · rw [z29, st_am]; exact st_rok st_xw
  · rw [z29, m0 15 (by decide)]
  · rw [z29, z5]
  · rw [z29, z5]
  · rw [z29, m0 16 (by decide)]
  · rw [z29, m0 17 (by decide)]
  · intro c hc; rw [z29] at hc; omega
  · intro c hc; rw [z29] at hc; omega
  · intro k _; rw [st_xw, z8]
  · intro c hc; rw [z29] at hc; omega
  · rw [z40]; omega
  · rw [z40]; omega
  · rw [z40, m0 24 (by decide)]
  · intro j hj; rw [z40] at hj; omega
  · intro i hi
    refine ⟨by rw [z45, z13], Or.inl (z13 i), fun h => ?_⟩
    rw [z13] at h; omega
  · rw [z46]; omega
  · intro k hk; rw [z46] at hk; omega
  · rw [z46, m0 29 (by decide)]
  · intro k hk; rw [z46] at hk; omega
  · rw [z51]; omega
  · rw [z51, m0 31 (by decide)]
  · intro k hk; rw [z51] at hk; omega
  · rw [z18]; omega
  · rw [z18, m0 0 (by decide)]
  · intro i hi; rw [z18] at hi; omega
