/-! the class (cells of x) and the reference (cells of m) stand for one state -/
def rl_eq (nc : Int) (f h : Nat → Int) : Prop := (∀ k, k < 5 → f k = h k) ∧ ∀ c : Nat, (c : Int) < nc → f (5 + c) = h (5 + c) ∧ f (9 + c) = h (9 + c) ∧ f (13 + c) = h (13 + c)
def rl_Rp (x m : am_Mem) : Prop := x 29 0 = m 0 15 ∧ x 29 2 = m 5 1 ∧ x 29 3 = m 5 2 ∧ x 29 4 = m 0 16 ∧ x 29 5 = m 0 17 ∧ (∀ c : Nat, (c : Int) < x 29 4 → x 31 c = m 6 (3 * c + 1) ∧ x 32 c = m 6 (3 * c + 2)) ∧ ∀ r : Nat, (r : Int) < x 29 5 → x 33 r = m 7 (3 * r) ∧ x 34 r = m 7 (3 * r + 1) ∧ x 35 r = m 7 (3 * r + 2)
def rl_Rd (t : Int) (x m : am_Mem) : Prop := rl_deedok x ∧ m 0 24 = x 40 2 ∧ ∀ j : Nat, (j : Int) < x 40 2 → rl_rok (x 29 4) (rl_am x) t (fun k => m 10 (17 * j + k)) ∧ rl_eq (x 29 4) (fun k => x 41 (17 * ((x 40 1 - x 40 2 + j) % 30).toNat + k)) (fun k => m 10 (17 * j + k))
def rl_Ri (t : Int) (x m : am_Mem) : Prop := ∀ i : Nat, i < 2 → x 45 i = m 13 i ∧ (m 13 i = 0 ∨ m 13 i = 1) ∧ (m 13 i = 1 → x 44 i = m 12 i ∧ (0 ≤ m 12 i ∧ m 12 i ≤ 2147483647) ∧ rl_rok (x 29 4) (rl_am x) t (fun k => m 11 (17 * i + k)) ∧ rl_eq (x 29 4) (fun k => x 43 (17 * i + k)) (fun k => m 11 (17 * i + k)))
def rl_Rs (x m : am_Mem) : Prop := rl_seenok x ∧ m 0 29 = x 46 4 ∧ ∀ k : Nat, (k : Int) < x 46 4 → (0 ≤ x 47 k ∧ x 47 k < x 29 4) ∧ x 47 k = m 14 (4 * k) ∧ x 48 k = m 14 (4 * k + 1) ∧ x 49 k = m 14 (4 * k + 2) ∧ x 50 k = m 14 (4 * k + 3) ∧ (x 50 k = 0 ∨ x 50 k = 1)
def rl_Rb (x m : am_Mem) : Prop := (0 ≤ x 51 2 ∧ x 51 2 ≤ 20) ∧ m 0 31 = x 51 2 ∧ ∀ k : Nat, (k : Int) < x 51 2 → (0 ≤ x 52 k ∧ x 52 k < x 29 4) ∧ x 52 k = m 15 (2 * k) ∧ x 53 k = m 15 (2 * k + 1)
def rl_Rt (x m : am_Mem) : Prop := (0 ≤ x 18 1 ∧ x 18 1 ≤ 200) ∧ m 0 0 = x 18 1 ∧ ∀ i : Nat, (i : Int) < x 18 1 → x 19 i = m 1 i ∧ (0 ≤ m 1 i ∧ m 1 i ≤ 255)
def rl_Rm (x m : am_Mem) : Prop := x 17 9 = m 0 7 ∧ x 17 10 = m 0 28 ∧ 0 ≤ m 0 28 ∧ m 0 28 ≤ 2147483647
def rl_R (t : Int) (x m : am_Mem) : Prop := rl_X t x ∧ rl_Rp x m ∧ rl_eq (x 29 4) (rl_xw x) (m 8) ∧ rl_Rd t x m ∧ rl_Ri t x m ∧ rl_Rs x m ∧ rl_Rb x m ∧ rl_Rt x m ∧ rl_Rm x m
/-- only places below 17 count in a row -/
theorem rl_rok_cg {nc am t : Int} {f h : Nat → Int} (h4 : nc ≤ 4) (e : ∀ k, k < 17 → h k = f k) (hf : rl_rok nc am t f) : rl_rok nc am t h := by
  obtain ⟨a, b, c, d, i, j⟩ := hf
  refine ⟨by rw [e 0 (by omega)]; exact a, by rw [e 1 (by omega)]; exact b, by rw [e 2 (by omega), e 1 (by omega)]; exact c, by rw [e 3 (by omega)]; exact d, by rw [e 4 (by omega)]; exact i, fun k hk => ?_⟩
  rw [e (5 + k) (by omega), e (9 + k) (by omega), e (13 + k) (by omega), e 1 (by omega)]
  exact j k hk
theorem rl_eq_cg {nc : Int} {f f' h h' : Nat → Int} (h4 : nc ≤ 4) (e : ∀ k, k < 17 → f' k = f k) (e' : ∀ k, k < 17 → h' k = h k) (hf : rl_eq nc f h) : rl_eq nc f' h' := by
  refine ⟨fun k hk => by rw [e k (by omega), e' k (by omega)]; exact hf.1 k hk, fun c hc => ?_⟩
  rw [e (5 + c) (by omega), e (9 + c) (by omega), e (13 + c) (by omega), e' (5 + c) (by omega), e' (9 + c) (by omega), e' (13 + c) (by omega)]
  exact hf.2 c hc
theorem rl_rok_eq {nc am t : Int} {f h : Nat → Int} (e : rl_eq nc f h) (hf : rl_rok nc am t f) : rl_rok nc am t h := by
  obtain ⟨a, b, c, d, i, j⟩ := hf
  have e0 := e.1 0 (by omega)
  have e1 := e.1 1 (by omega)
  have e2 := e.1 2 (by omega)
  have e3 := e.1 3 (by omega)
  have e4 := e.1 4 (by omega)
  refine ⟨by rw [← e0]; exact a, by rw [← e1]; exact b, by rw [← e2, ← e1]; exact c, by rw [← e3]; exact d, by rw [← e4]; exact i, fun k hk => ?_⟩
  obtain ⟨q1, q2, q3⟩ := e.2 k hk
  rw [← q1, ← q2, ← q3, ← e1]
  exact j k hk
theorem rl_eq_symm {nc : Int} {f h : Nat → Int} (e : rl_eq nc f h) : rl_eq nc h f := ⟨fun k hk => (e.1 k hk).symm, fun c hc => ⟨(e.2 c hc).1.symm, (e.2 c hc).2.1.symm, (e.2 c hc).2.2.symm⟩⟩
theorem rl_rok_t {nc am t t' : Int} {f : Nat → Int} (h : t ≤ t') (hf : rl_rok nc am t f) : rl_rok nc am t' f := by
  obtain ⟨a, b, c, d, i, j⟩ := hf
  exact ⟨a, b, c, ⟨d.1, by omega⟩, i, j⟩
theorem rl_R_t {t t' : Int} {x m : am_Mem} (h : t ≤ t') (hR : rl_R t x m) : rl_R t' x m := by
  obtain ⟨a, b, c, d, e, f⟩ := hR
  exact ⟨rl_X_mono h a, b, c, ⟨d.1, d.2.1, fun j hj => ⟨rl_rok_t h (d.2.2 j hj).1, (d.2.2 j hj).2⟩⟩, fun i hi => ⟨(e i hi).1, (e i hi).2.1, fun q => ⟨((e i hi).2.2 q).1, ((e i hi).2.2 q).2.1, rl_rok_t h ((e i hi).2.2 q).2.2.1, ((e i hi).2.2 q).2.2.2⟩⟩, f⟩
section REL
variable {t : Int} {x m x' m' : am_Mem}
theorem rl_R_am (hR : rl_R t x m) : rl_mam m = rl_am x := by
  obtain ⟨a, ⟨-, -, -, -, b5, -, br⟩, -⟩ := hR
  have h5 := a.1.2.2.2.2.1
  unfold rl_mam rl_am
  rw [← b5]
  exact rl_sm_cg _ (fun r hr => ((br r (by omega)).1).symm)
theorem rl_R_MP (hR : rl_R t x m) : rl_MP m := by
  obtain ⟨⟨⟨p0, p2, p3, p4, p5, pc, pr, -⟩, -⟩, ⟨b0, b2, b3, b4, b5, bc, br⟩, -⟩ := hR
  refine ⟨by rw [← b0]; exact p0, by rw [← b2]; exact p2, by rw [← b3]; exact p3, by rw [← b4]; exact p4, by rw [← b5]; exact p5, fun c hc => ?_, fun r hr => ?_⟩
  · rw [← b4] at hc
    have := bc c hc
    rw [← this.1, ← this.2]
    exact ⟨(pc c hc).2.1, (pc c hc).2.2⟩
  · rw [← b5] at hr
    have := br r hr
    rw [← this.1, ← this.2.1, ← this.2.2]
    exact pr r hr
theorem rl_R_rok (hR : rl_R t x m) : rl_rok (m 0 16) (rl_mam m) t (m 8) := by
  rw [rl_R_am hR]
  obtain ⟨a, ⟨-, -, -, b4, -⟩, e, -⟩ := hR
  rw [← b4]
  exact rl_rok_eq e a.2
/-- what is of no account may change -/
theorem rl_R_fr (hR : rl_R t x m) (hx : ∀ k, 17 ≤ k → k < 54 → ¬ (20 ≤ k ∧ k ≤ 28) → x' k = x k) (hm : ∀ k, 1 ≤ k → k < 16 → k ≠ 2 → k ≠ 3 → k ≠ 4 → k ≠ 9 → m' k = m k) (h0 : ∀ j, j = 0 ∨ j = 7 ∨ j = 15 ∨ j = 16 ∨ j = 17 ∨ j = 24 ∨ j = 28 ∨ j = 29 ∨ j = 31 → m' 0 j = m 0 j) : rl_R t x' m' := by
  have e29 := hx 29 (by omega) (by omega) (by omega)
  have e31 := hx 31 (by omega) (by omega) (by omega)
  have e32 := hx 32 (by omega) (by omega) (by omega)
  have e33 := hx 33 (by omega) (by omega) (by omega)
  have e34 := hx 34 (by omega) (by omega) (by omega)
  have e35 := hx 35 (by omega) (by omega) (by omega)
  have e36 := hx 36 (by omega) (by omega) (by omega)
  have e37 := hx 37 (by omega) (by omega) (by omega)
  have e38 := hx 38 (by omega) (by omega) (by omega)
  have e39 := hx 39 (by omega) (by omega) (by omega)
  have hxw : rl_xw x' = rl_xw x := by funext k; simp only [rl_xw, e36, e37, e38, e39]
  have ham : rl_am x' = rl_am x := by simp only [rl_am, e29, e33]
  obtain ⟨a, b, c, d, e, f, i, j, k⟩ := hR
  refine ⟨rl_X_cg a e29 (hx 30 (by omega) (by omega) (by omega)) e31 e32 e33 e34 e35 e36 e37 e38 e39, ?_, ?_, ?_, ?_, ?_, ?_, ?_, ?_⟩
  · unfold rl_Rp
    rw [e29, e31, e32, e33, e34, e35, h0 15 (by omega), h0 16 (by omega), h0 17 (by omega), hm 5 (by omega) (by omega) (by omega) (by omega) (by omega) (by omega), hm 6 (by omega) (by omega) (by omega) (by omega) (by omega) (by omega), hm 7 (by omega) (by omega) (by omega) (by omega) (by omega) (by omega)]
    exact b
  · rw [e29, hxw, hm 8 (by omega) (by omega) (by omega) (by omega) (by omega) (by omega)]; exact c
  · unfold rl_Rd rl_deedok
    rw [e29, ham, hx 40 (by omega) (by omega) (by omega), hx 41 (by omega) (by omega) (by omega), h0 24 (by omega), hm 10 (by omega) (by omega) (by omega) (by omega) (by omega) (by omega)]
    exact d
  · unfold rl_Ri
    rw [e29, ham, hx 43 (by omega) (by omega) (by omega), hx 44 (by omega) (by omega) (by omega), hx 45 (by omega) (by omega) (by omega), hm 11 (by omega) (by omega) (by omega) (by omega) (by omega) (by omega), hm 12 (by omega) (by omega) (by omega) (by omega) (by omega) (by omega), hm 13 (by omega) (by omega) (by omega) (by omega) (by omega) (by omega)]
    exact e
  · unfold rl_Rs rl_seenok
    rw [e29, hx 46 (by omega) (by omega) (by omega), hx 47 (by omega) (by omega) (by omega), hx 48 (by omega) (by omega) (by omega), hx 49 (by omega) (by omega) (by omega), hx 50 (by omega) (by omega) (by omega), h0 29 (by omega), hm 14 (by omega) (by omega) (by omega) (by omega) (by omega) (by omega)]
    exact f
  · unfold rl_Rb
    rw [e29, hx 51 (by omega) (by omega) (by omega), hx 52 (by omega) (by omega) (by omega), hx 53 (by omega) (by omega) (by omega), h0 31 (by omega), hm 15 (by omega) (by omega) (by omega) (by omega) (by omega) (by omega)]
    exact i
  · unfold rl_Rt
    rw [hx 18 (by omega) (by omega) (by omega), hx 19 (by omega) (by omega) (by omega), h0 0 (by omega), hm 1 (by omega) (by omega) (by omega) (by omega) (by omega) (by omega)]
    exact j
  · unfold rl_Rm
    rw [hx 17 (by omega) (by omega) (by omega), h0 7 (by omega), h0 28 (by omega)]
    exact k
/-- only what is Now is changed, and it stays the same on both sides -/
theorem rl_R_now' {t' : Int} (ht : t ≤ t') (hR : rl_R t x m) (hX : rl_X t' x') (hx : ∀ k, 17 ≤ k → k < 54 → ¬ (20 ≤ k ∧ k ≤ 28) → ¬ (36 ≤ k ∧ k ≤ 39) → x' k = x k) (hm : ∀ k, 0 ≤ k → k < 16 → k ≠ 8 → m' k = m k) (he : rl_eq (x 29 4) (rl_xw x') (m' 8)) : rl_R t' x' m' := by
  have e29 := hx 29 (by omega) (by omega) (by omega) (by omega)
  have e31 := hx 31 (by omega) (by omega) (by omega) (by omega)
  have e32 := hx 32 (by omega) (by omega) (by omega) (by omega)
  have e33 := hx 33 (by omega) (by omega) (by omega) (by omega)
  have e34 := hx 34 (by omega) (by omega) (by omega) (by omega)
  have e35 := hx 35 (by omega) (by omega) (by omega) (by omega)
  have h0 := hm 0 (by omega) (by omega) (by omega)
  have ham : rl_am x' = rl_am x := by simp only [rl_am, e29, e33]
  obtain ⟨a, b, c, d, e, f, i, j, k⟩ := rl_R_t ht hR
  refine ⟨hX, ?_, ?_, ?_, ?_, ?_, ?_, ?_, ?_⟩
  · unfold rl_Rp
    rw [e29, e31, e32, e33, e34, e35, h0, hm 5 (by omega) (by omega) (by omega), hm 6 (by omega) (by omega) (by omega), hm 7 (by omega) (by omega) (by omega)]
    exact b
  · rw [e29]; exact he
  · unfold rl_Rd rl_deedok
    rw [e29, ham, hx 40 (by omega) (by omega) (by omega) (by omega), hx 41 (by omega) (by omega) (by omega) (by omega), h0, hm 10 (by omega) (by omega) (by omega)]
    exact d
  · unfold rl_Ri
    rw [e29, ham, hx 43 (by omega) (by omega) (by omega) (by omega), hx 44 (by omega) (by omega) (by omega) (by omega), hx 45 (by omega) (by omega) (by omega) (by omega), hm 11 (by omega) (by omega) (by omega), hm 12 (by omega) (by omega) (by omega), hm 13 (by omega) (by omega) (by omega)]
    exact e
  · unfold rl_Rs rl_seenok
    rw [e29, hx 46 (by omega) (by omega) (by omega) (by omega), hx 47 (by omega) (by omega) (by omega) (by omega), hx 48 (by omega) (by omega) (by omega) (by omega), hx 49 (by omega) (by omega) (by omega) (by omega), hx 50 (by omega) (by omega) (by omega) (by omega), h0, hm 14 (by omega) (by omega) (by omega)]
    exact f
  · unfold rl_Rb
    rw [e29, hx 51 (by omega) (by omega) (by omega) (by omega), hx 52 (by omega) (by omega) (by omega) (by omega), hx 53 (by omega) (by omega) (by omega) (by omega), h0, hm 15 (by omega) (by omega) (by omega)]
    exact i
  · unfold rl_Rt
    rw [hx 18 (by omega) (by omega) (by omega) (by omega), hx 19 (by omega) (by omega) (by omega) (by omega), h0, hm 1 (by omega) (by omega) (by omega)]
    exact j
  · unfold rl_Rm
    rw [hx 17 (by omega) (by omega) (by omega) (by omega), h0]
    exact k
theorem am_cp_in {mem : am_Mem} {a sp b dp n i : Nat} (h : dp ≤ i) (h2 : i < dp + n) : am_cp mem a sp b dp n b i = mem a (sp + (i - dp)) := by
  unfold am_cp; rw [if_pos ⟨rfl, h, h2⟩]
theorem am_cp_out {mem : am_Mem} {a sp b dp n i : Nat} (h : i < dp ∨ dp + n ≤ i) : am_cp mem a sp b dp n b i = mem b i := by
  unfold am_cp; rw [if_neg (by omega)]
theorem rl_note_c {k : Nat} (h : k ≠ 0) (h2 : k ≠ 10) : rl_note m k = m k := by
  unfold rl_note
  split <;> (funext i; simp [am_cp, am_up, h, h2])
theorem rl_note_0 {j : Nat} (h : j ≠ 24) : rl_note m 0 j = m 0 j := by
  unfold rl_note
  split <;> simp [am_cp, am_up, h]
theorem rl_sv_in {rows a k : Nat} (hk : k < 17) : rl_sv x rows a rows (a + k) = rl_xw x k := by
  simp only [rl_sv, am_st]
  rw [if_pos trivial, if_pos (by omega), show a + k - a = k by omega]
theorem rl_sv_out {rows a i : Nat} (h : i < a ∨ a + 17 ≤ i) : rl_sv x rows a rows i = x rows i := by
  simp only [rl_sv, am_st]
  rw [if_pos trivial, if_neg (by omega)]
/-- a deed kept on both sides -/
theorem rl_R_push (hR : rl_R t x m) : rl_R t (rl_push x) (rl_note m) := by
  have hok := rl_R_rok hR
  have ham := rl_R_am hR
  obtain ⟨a, b, c, d, e, f, i, j, k⟩ := hR
  have p4 := a.1.2.2.2.1
  refine ⟨rl_X_push a, ?_, ?_, ⟨rl_push_ok d.1, ?_, fun q hq => ?_⟩, ?_, ?_, ?_, ?_, ?_⟩
  · unfold rl_Rp
    rw [rl_note_0 (m := m) (j := 15) (by omega), rl_note_0 (m := m) (j := 16) (by omega), rl_note_0 (m := m) (j := 17) (by omega), rl_note_c (m := m) (k := 5) (by omega) (by omega), rl_note_c (m := m) (k := 6) (by omega) (by omega), rl_note_c (m := m) (k := 7) (by omega) (by omega)]
    exact b
  · rw [rl_note_c (m := m) (k := 8) (by omega) (by omega)]; exact c
  · obtain ⟨⟨d1, d2⟩, d3, -⟩ := d
    show rl_note m 0 24 = min (x 40 2 + 1) 30
    unfold rl_note
    split
    · rename_i h; show m 0 24 = _; omega
    · show m 0 24 + 1 = _; omega
  · obtain ⟨⟨⟨d1, d1'⟩, d2, d2'⟩, d3, d4⟩ := d
    have hq : (q : Int) < min (x 40 2 + 1) 30 := hq
    have hok' : rl_rok (x 29 4) (rl_am x) t (m 8) := by rw [← ham, b.2.2.2.1]; exact hok
    show rl_rok (x 29 4) (rl_am x) t (fun k => rl_note m 10 (17 * q + k)) ∧ rl_eq (x 29 4) (fun k => rl_sv x 41 (17 * (x 40 1).toNat) 41 (17 * (((x 40 1 + 1) % 30 - min (x 40 2 + 1) 30 + q) % 30).toNat + k)) (fun k => rl_note m 10 (17 * q + k))
    by_cases hn : (q : Int) = min (x 40 2 + 1) 30 - 1
    · have e1 : ∀ k, k < 17 → rl_note m 10 (17 * q + k) = m 8 k := by
        intro k hk
        unfold rl_note
        split
        · rename_i h
          rw [am_cp_in (by omega) (by omega), show 0 + (17 * q + k - 493) = k by omega]
          exact am_cp_ne (by omega)
        · rw [am_up_ne (by omega), am_cp_in (by omega) (by omega), show 0 + (17 * q + k - 17 * (m 0 24).toNat) = k by omega]
      have e2 : (((x 40 1 + 1) % 30 - min (x 40 2 + 1) 30 + q) % 30).toNat = (x 40 1).toNat := by omega
      rw [e2]
      refine ⟨rl_rok_cg p4.2 e1 hok', rl_eq_cg p4.2 (fun k hk => rl_sv_in hk) e1 c⟩
    · by_cases h30 : x 40 2 = 30
      · have e1 : ∀ k, k < 17 → rl_note m 10 (17 * q + k) = m 10 (17 * (q + 1) + k) := by
          intro k hk
          unfold rl_note
          rw [if_pos (by omega)]
          rw [am_cp_out (by omega), am_cp_in (by omega) (by omega)]
          congr 1; omega
        have e2 : (((x 40 1 + 1) % 30 - min (x 40 2 + 1) 30 + q) % 30).toNat = ((x 40 1 - x 40 2 + ((q + 1 : Nat) : Int)) % 30).toNat := by omega
        have hd := d4 (q + 1) (by omega)
        rw [e2]
        refine ⟨rl_rok_cg p4.2 e1 hd.1, rl_eq_cg p4.2 (fun k hk => rl_sv_out ?_) e1 hd.2⟩
        omega
      · have e1 : ∀ k, k < 17 → rl_note m 10 (17 * q + k) = m 10 (17 * q + k) := by
          intro k hk
          unfold rl_note
          rw [if_neg (by omega)]
          rw [am_up_ne (by omega), am_cp_out (by omega)]
        have e2 : (((x 40 1 + 1) % 30 - min (x 40 2 + 1) 30 + q) % 30).toNat = ((x 40 1 - x 40 2 + (q : Int)) % 30).toNat := by omega
        have hd := d4 q (by omega)
        rw [e2]
        refine ⟨rl_rok_cg p4.2 e1 hd.1, rl_eq_cg p4.2 (fun k hk => rl_sv_out ?_) e1 hd.2⟩
        omega
  · unfold rl_Ri
    rw [rl_note_c (m := m) (k := 11) (by omega) (by omega), rl_note_c (m := m) (k := 12) (by omega) (by omega), rl_note_c (m := m) (k := 13) (by omega) (by omega)]
    exact e
  · unfold rl_Rs
    rw [rl_note_0 (m := m) (j := 29) (by omega), rl_note_c (m := m) (k := 14) (by omega) (by omega)]
    exact f
  · unfold rl_Rb
    rw [rl_note_0 (m := m) (j := 31) (by omega), rl_note_c (m := m) (k := 15) (by omega) (by omega)]
    exact i
  · unfold rl_Rt
    rw [rl_note_0 (m := m) (j := 0) (by omega), rl_note_c (m := m) (k := 1) (by omega) (by omega)]
    exact j
  · unfold rl_Rm
    rw [rl_note_0 (m := m) (j := 7) (by omega), rl_note_0 (m := m) (j := 28) (by omega)]
    exact k
end REL
