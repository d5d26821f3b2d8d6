theorem am_tn {z : Int} (h : am_inR z) : ((Int32.ofInt z).toBitVec.toNat : Int) = z % 4294967296 := by
  rw [Int32.toBitVec_ofInt]
  simp [BitVec.toNat_ofInt]
  omega
theorem am_andR (x : Int) {y : Int} (h : y = 3 ∨ y = 31) : am_inR (x % (y + 1)) := by
  rcases h with rfl | rfl
  · exact am_modR (y := 3 + 1) ⟨by omega, by omega⟩ (by omega)
  · exact am_modR (y := 31 + 1) ⟨by omega, by omega⟩ (by omega)
theorem am_and {x y : Int} (hx : am_inR x) (h : y = 3 ∨ y = 31) : Int32.ofInt x &&& Int32.ofInt y = Int32.ofInt (x % (y + 1)) := by
  have e := am_tn hx
  rcases h with rfl | rfl
  · rw [pk_and (Int32.ofInt x) (m := Int32.ofInt 3) 2 (by decide +kernel)]
    show Int32.ofNat _ = _
    rw [← Int32.ofInt_eq_ofNat]
    congr 1
    omega
  · rw [pk_and (Int32.ofInt x) (m := Int32.ofInt 31) 5 (by decide +kernel)]
    show Int32.ofNat _ = _
    rw [← Int32.ofInt_eq_ofNat]
    congr 1
    omega
theorem am_xor {x y : Int} (hx : am_inR x) (hy : am_inR y) : ∃ z : Int, am_inR z ∧ Int32.ofInt x ^^^ Int32.ofInt y = Int32.ofInt z ∧ (0 ≤ z ↔ (0 ≤ x ↔ 0 ≤ y)) := by
  have b := (Int32.ofInt x ^^^ Int32.ofInt y).toInt_lt
  have b2 := (Int32.ofInt x ^^^ Int32.ofInt y).le_toInt
  refine ⟨(Int32.ofInt x ^^^ Int32.ofInt y).toInt, ⟨b2, by omega⟩, (Int32.ofInt_toInt _).symm, ?_⟩
  have key : ∀ a : BitVec 32, 0 ≤ a.toInt ↔ a.msb = false := fun a => by
    rw [BitVec.msb_eq_toInt]
    simp
  have h1 : 0 ≤ (Int32.ofInt x ^^^ Int32.ofInt y).toInt ↔ ((Int32.ofInt x).toBitVec ^^^ (Int32.ofInt y).toBitVec).msb = false := key _
  have h2 : 0 ≤ (Int32.ofInt x).toInt ↔ (Int32.ofInt x).toBitVec.msb = false := key _
  have h3 : 0 ≤ (Int32.ofInt y).toInt ↔ (Int32.ofInt y).toBitVec.msb = false := key _
  rw [am_toInt hx] at h2
  rw [am_toInt hy] at h3
  rw [h1, h2, h3, BitVec.msb_xor]
  cases (Int32.ofInt x).toBitVec.msb <;> cases (Int32.ofInt y).toBitVec.msb <;> simp
theorem am_shl_n : ∀ n : Nat, n < 31 → Int32.ofInt 1 <<< (Int32.ofInt (n : Int) &&& 31) = Int32.ofInt (2 ^ n) := by decide +kernel
theorem am_pow_n : ∀ n : Nat, n < 31 → -2147483648 ≤ (2 ^ n : Int) ∧ (2 ^ n : Int) ≤ 2147483647 := by decide +kernel
theorem am_shl {x y : Int} (h : x = 1 ∧ 0 ≤ y ∧ y ≤ 30) : Int32.ofInt x <<< (Int32.ofInt y &&& 31) = Int32.ofInt (2 ^ y.toNat) ∧ am_inR (2 ^ y.toNat) := by
  obtain ⟨rfl, h1, h2⟩ := h
  have e : (y.toNat : Int) = y := Int.toNat_of_nonneg h1
  have := am_shl_n y.toNat (by omega)
  rw [e] at this
  exact ⟨this, am_pow_n y.toNat (by omega)⟩
theorem am_shr_n : ∀ n : Nat, n < 32 → ((Int32.ofInt (n : Int) &&& 31).toBitVec.smod 32).toNat = n := by decide +kernel
theorem am_shr {x y : Int} (hx : am_inR x) (h : 0 ≤ x ∧ 0 ≤ y ∧ y ≤ 31) : Int32.ofInt x >>> (Int32.ofInt y &&& 31) = Int32.ofInt (x / 2 ^ y.toNat) ∧ am_inR (x / 2 ^ y.toNat) := by
  obtain ⟨h0, h1, h2⟩ := h
  have e : (y.toNat : Int) = y := Int.toNat_of_nonneg h1
  have hs := am_shr_n y.toNat (by omega)
  rw [e] at hs
  have hp : (0 : Int) < 2 ^ y.toNat := Int.pow_pos (by omega)
  have hR := am_divR hx h0 hp
  refine ⟨?_, hR⟩
  apply Int32.toInt_inj.mp
  rw [pk_shr _ _ _ hs, am_toInt hx, am_toInt hR, Int.shiftRight_eq_div_pow]
  simp
theorem am_landR (x : Int) : am_inL (x % 2147483648) := am_modL ⟨by omega, by omega⟩ (by omega)
theorem am_land {x y : Int} (hx : am_inL x) (h : 0 ≤ x ∧ y = 2147483647) : Int64.ofInt x &&& Int64.ofInt y = Int64.ofInt (x % 2147483648) := by
  obtain ⟨h0, rfl⟩ := h
  apply Int64.toBitVec.inj
  apply BitVec.eq_of_toNat_eq
  rw [Int64.toBitVec_and, BitVec.toNat_and, Int64.toBitVec_ofInt, Int64.toBitVec_ofInt, Int64.toBitVec_ofInt, BitVec.toNat_ofInt, BitVec.toNat_ofInt, BitVec.toNat_ofInt]
  rw [show ((2147483647 : Int) % (2 ^ 64 : Nat)).toNat = 2 ^ 31 - 1 by decide +kernel, Nat.and_two_pow_sub_one_eq_mod]
  have := hx.2
  omega
