/-! the reference: what its cells hold -/
def rl_mc (mem : am_Mem) : Prop := ∀ c : Nat, (c : Int) < mem 0 16 → (0 ≤ mem 6 (3 * c + 1) ∧ mem 6 (3 * c + 1) ≤ 99) ∧ (0 ≤ mem 6 (3 * c + 2) ∧ mem 6 (3 * c + 2) ≤ 9)
def rl_mr (mem : am_Mem) : Prop := ∀ r : Nat, (r : Int) < mem 0 17 → (1 ≤ mem 7 (3 * r) ∧ mem 7 (3 * r) ≤ 20) ∧ (10 ≤ mem 7 (3 * r + 1) ∧ mem 7 (3 * r + 1) ≤ 70) ∧ (0 ≤ mem 7 (3 * r + 2) ∧ mem 7 (3 * r + 2) ≤ 30)
def rl_MP (mem : am_Mem) : Prop := (mem 0 15 = 0 ∨ mem 0 15 = 1) ∧ (0 ≤ mem 5 1 ∧ mem 5 1 ≤ 40) ∧ (0 ≤ mem 5 2 ∧ mem 5 2 ≤ 999) ∧ (0 ≤ mem 0 16 ∧ mem 0 16 ≤ 4) ∧ (0 ≤ mem 0 17 ∧ mem 0 17 ≤ 6) ∧ rl_mc mem ∧ rl_mr mem
def rl_mam (mem : am_Mem) : Int := rl_sm (mem 0 17).toNat (fun r => mem 7 (3 * r))
theorem rl_mam_bd {mem : am_Mem} (h : rl_MP mem) : 0 ≤ rl_mam mem ∧ rl_mam mem ≤ 120 := by
  obtain ⟨-, -, -, -, h5, -, hr⟩ := h
  have := rl_sm_bd (f := fun r => mem 7 (3 * r)) (K := 20) (mem 0 17).toNat (fun c hc => by have := (hr c (by omega)).1; omega)
  unfold rl_mam
  omega
theorem rl_k0 (c : Nat) : (3 * (c : Int)).toNat = 3 * c := by omega
theorem rl_k1 (c : Nat) : (3 * (c : Int) + 1).toNat = 3 * c + 1 := by omega
theorem rl_k2 (c : Nat) : (3 * (c : Int) + 2).toNat = 3 * c + 2 := by omega
theorem rl_k5 (c : Nat) : (5 + (c : Int)).toNat = 5 + c := by omega
theorem rl_k9 (c : Nat) : (9 + (c : Int)).toNat = 9 + c := by omega
theorem rl_k13 (c : Nat) : (13 + (c : Int)).toNat = 13 + c := by omega
theorem rl_tb1a {t s gv : Int} (h : 4 ≤ s) : rl_tb 1 t s gv = max 0 (t - gv) := by
  unfold rl_tb
  rw [show (1 : Int) + min 1 (max 0 (4 - s)) = 1 by omega, Int.mul_one]
theorem rl_tb1b {t s gv : Int} (h : s < 4) : rl_tb 1 t s gv = max 0 (t - 2 * gv) := by
  unfold rl_tb
  rw [show (1 : Int) + min 1 (max 0 (4 - s)) = 2 by omega, Int.mul_comm]
/-- rows: n cords slacker by a mile; driven; lost; pulled -/
def rw_slk (n : Nat) (gv : Nat → Int) (w : Nat → Int) : Nat → Int := fun i => if 9 ≤ i ∧ i < 9 + n then rl_tb 1 (w i) (w (i + 4)) (gv (i - 9)) else if 13 ≤ i ∧ i < 13 + n then w i + 1 else w i
def rw_drv (n : Nat) (gv : Nat → Int) (own : Int) (w : Nat → Int) : Nat → Int := fun i => if i = 1 then w 1 + 1 else if i = 2 then w 2 + 3600 / own else rw_slk n gv w i
def rw_lost (w : Nat → Int) : Nat → Int := fun i => if i = 3 then w 3 + 1 else if i = 4 then 1 else w i
def rw_pull (n : Nat) (tt : Nat → Int) (w : Nat → Int) : Nat → Int := fun i => if 9 ≤ i ∧ i < 9 + n then tt (i - 9) else if 13 ≤ i ∧ i < 13 + n then 0 else w i
theorem am_st_self (mem : am_Mem) (a : Nat) : am_st mem a (mem a) = mem := by
  funext k i; simp only [am_st]; split
  · rename_i h; rw [h]
  · rfl
theorem am_st_st (mem : am_Mem) (a : Nat) (f h : Nat → Int) : am_st (am_st mem a f) a h = am_st mem a h := by
  funext k i; simp only [am_st]; split <;> rfl
theorem am_st_at (mem : am_Mem) (a : Nat) (f : Nat → Int) : am_st mem a f a = f := by
  funext i; simp [am_st]
theorem am_st_ne {mem : am_Mem} {a k : Nat} {f : Nat → Int} (h : k ≠ a) : am_st mem a f k = mem k := by
  funext i; simp [am_st, h]
theorem am_up_st (mem : am_Mem) (a j : Nat) (f : Nat → Int) (z : Int) : am_up (am_st mem a f) a j z = am_st mem a (fun i => if i = j then z else f i) := by
  funext k i; simp only [am_st, am_up]; grind
theorem am_up_as (mem : am_Mem) (a j : Nat) (z : Int) : am_up mem a j z = am_st mem a (fun i => if i = j then z else mem a i) := by
  funext k i; simp only [am_st, am_up]; grind
section M1
variable {l : Launch} {g : am_G} {mem : am_Mem} {t am : Int}
theorem mp_in (x a b : Int) : am_Mt l g 93 [.inl x, .inl a, .inl b] mem (am_bq (a ≤ x ∧ x ≤ b) mem) := by
  refine fm_X10_in ⟨fun h => am_R0 (am_b0 (by omega)), fun h => ⟨fun h2 => am_R0 (am_b0 (by omega)), fun h2 => am_R1 (am_b1 (by omega))⟩⟩
theorem am_bq_iff {y : Nat} {as : List am_AV} {m0 : am_Mem} {c c' : Prop} (h : c ↔ c') (k : am_Mt l g y as mem (am_bq c m0)) : am_Mt l g y as mem (am_bq c' m0) := by
  have : c = c' := propext h
  rw [← this]; exact k
theorem mp_isCord {c : Int} (h0 : 0 ≤ mem 0 16) (h4 : mem 0 16 ≤ 4) : am_Mt l g 94 [.inr (.inl 0), .inl c] mem (am_bq (0 ≤ c ∧ c < mem 0 16) mem) := by
  refine fm_X10_isCord ⟨by omega, am_cbp (am_bq_iff ?_ (mp_in c 0 (mem 0 16 - 1)))⟩
  omega
theorem mp_liftBy {p q : Int} (hA : 0 ≤ mem 5 1) (hA' : mem 5 1 ≤ 40) (hv : 0 ≤ p + q) (hv' : p + q ≤ 140) : am_Mt l g 112 [.inr (.inl 0), .inl p, .inl q] mem (am_vq (rl_L (mem 5 1) (p + q)) mem) := by
  have h := rl_L_bd hA hA' hv hv'
  refine fm_X10_liftBy ⟨by omega, by omega, ?_, by omega, ?_, ?_, rfl, rfl⟩
  · exact ⟨by have := h.1.1; omega, by have := h.1.2; omega⟩
  · exact ⟨by have := h.2.1.1; omega, by have := h.2.1.2; omega⟩
  · exact ⟨by have := h.2.1.1; omega, by omega⟩
theorem mp_allMiles (hP : rl_MP mem) : am_Mt l g 105 [.inr (.inl 0)] mem (am_vq (rl_mam mem) mem) := by
  obtain ⟨-, -, -, -, h5, -, hr⟩ := hP
  refine fm_X10_allMiles (fun n v1 v2 m => m = mem ∧ ∃ c : Nat, v2 = c ∧ (c : Int) ≤ mem 0 17 ∧ v1 = rl_sm c (fun r => mem 7 (3 * r)) ∧ n = 6 - c) ⟨6, rfl, rfl, 0, rfl, h5.1, rfl, rfl⟩ ?_
  rintro n v1 v2 m ⟨rfl, c, rfl, hc, rfl, rfl⟩
  have hb := rl_sm_bd (f := fun r => m 7 (3 * r)) (K := 20) c (fun r hq => by have := (hr r (by omega)).1; omega)
  refine ⟨fun h => ⟨?_, rfl⟩, fun h => ⟨by omega, by omega, ?_⟩⟩
  · unfold rl_mam; rw [show (m 0 17).toNat = c by omega]
  · have := (hr c h).1
    rw [rl_k0]
    exact ⟨by omega, by omega, 6 - (c + 1), by omega, rfl, rfl, c + 1, by omega, by omega, rfl, rfl⟩
theorem mp_roadOf {x : Int} (hP : rl_MP mem) : am_Mt l g 108 [.inr (.inl 0), .inl x] mem (am_vq (rl_rd (mem 0 17).toNat (fun r => mem 7 (3 * r)) x) mem) := by
  obtain ⟨-, -, -, -, h5, -, hr⟩ := hP
  refine fm_X10_roadOf (fun n v1 v2 v3 m => m = mem ∧ v1 = x ∧ ∃ c : Nat, v3 = c ∧ (c : Int) ≤ mem 0 17 ∧ 0 ≤ v2 ∧ v2 ≤ 20 * c ∧ rl_rd (mem 0 17).toNat (fun r => mem 7 (3 * r)) x = rl_rdF ((mem 0 17).toNat - c) c v2 (fun r => mem 7 (3 * r)) x ∧ n = 6 - c) ⟨6, rfl, rfl, rfl, 0, rfl, h5.1, by omega, by omega, rfl, rfl⟩ ?_
  rintro n v1 v2 v3 m ⟨rfl, rfl, c, rfl, hc, hv, hv', he, rfl⟩
  refine ⟨fun h => ⟨?_, rfl⟩, fun h => ⟨by omega, by omega, ?_⟩⟩
  · rw [he, show (m 0 17).toNat - c = 0 by omega]; rfl
  · have := (hr c h).1
    rw [rl_k0]
    have e2 : (m 0 17).toNat - c = ((m 0 17).toNat - (c + 1)) + 1 := by omega
    rw [e2] at he
    refine ⟨by omega, fun h3 => ⟨by omega, 6 - (c + 1), by omega, rfl, rfl, rfl, c + 1, by omega, by omega, by omega, by omega, ?_, rfl⟩, fun h3 => ⟨?_, rfl⟩⟩
    · rw [he, rl_rdF, if_neg (by omega)]
    · rw [he, rl_rdF, if_pos h3]
/-- a copy, place by place -/
theorem am_cp_0 (mem : am_Mem) (a i b j : Nat) : am_cp mem a i b j 0 = mem := by
  funext k x; simp only [am_cp]; grind
theorem am_cp_s (mem : am_Mem) (a i b j k : Nat) (h : a ≠ b ∨ j ≤ i) : am_up (am_cp mem a i b j k) b (j + k) (am_cp mem a i b j k a (i + k)) = am_cp mem a i b j (k + 1) := by
  have e : am_cp mem a i b j k a (i + k) = mem a (i + k) := by
    simp only [am_cp]
    rw [if_neg]
    rintro ⟨h1, h2, h3⟩
    rcases h with h | h
    · exact h h1
    · omega
  rw [e]
  funext q x
  simp only [am_cp, am_up]
  by_cases hq : q = b
  · subst hq
    by_cases hx : x = j + k
    · subst hx
      simp
    · simp [hx]
      by_cases h1 : j ≤ x ∧ x < j + k
      · rw [if_pos h1, if_pos (by omega)]
      · rw [if_neg h1, if_neg (by omega)]
  · simp [hq]
theorem mp_bring_readCord_cord {i j n : Nat} {x y z : Int} (hx : x = i) (hy : y = j) (hz : z = n) (h1 : i + n ≤ 12) (h2 : j + n ≤ 12) : am_Mt l g 102 [.inr (.inl 3), .inl x, .inr (.inl 6), .inl y, .inl z] mem (am_vq 0 (am_cp mem 3 i 6 j n)) := by
  subst hx; subst hy; subst hz
  refine fm_X10_bring_readCord_cord (fun k v1 v3 v4 v5 m => v1 = i ∧ v3 = j ∧ v4 = n ∧ ∃ c : Nat, v5 = c ∧ c ≤ n ∧ m = am_cp mem 3 i 6 j c ∧ k = n - c) ⟨n, rfl, rfl, rfl, rfl, rfl, 0, rfl, by omega, (am_cp_0 _ _ _ _ _).symm, rfl⟩ ?_
  rintro k v1 v3 v4 v5 m ⟨rfl, rfl, rfl, c, rfl, hc, rfl, rfl⟩
  refine ⟨fun h => ⟨rfl, by rw [show c = n by omega]⟩, fun h => ⟨by omega, by omega, by omega, by omega, by omega, n - (c + 1), by omega, rfl, rfl, rfl, rfl, rfl, c + 1, by omega, by omega, ?_, rfl⟩⟩
  rw [show ((j : Int) + (c : Int)).toNat = j + c by omega, show ((i : Int) + (c : Int)).toNat = i + c by omega]
  exact am_cp_s mem 3 i 6 j c (Or.inl (by omega))
theorem mp_bring_readRoad_road {i j n : Nat} {x y z : Int} (hx : x = i) (hy : y = j) (hz : z = n) (h1 : i + n ≤ 18) (h2 : j + n ≤ 18) : am_Mt l g 102 [.inr (.inl 4), .inl x, .inr (.inl 7), .inl y, .inl z] mem (am_vq 0 (am_cp mem 4 i 7 j n)) := by
  subst hx; subst hy; subst hz
  refine fm_X10_bring_readRoad_road (fun k v1 v3 v4 v5 m => v1 = i ∧ v3 = j ∧ v4 = n ∧ ∃ c : Nat, v5 = c ∧ c ≤ n ∧ m = am_cp mem 4 i 7 j c ∧ k = n - c) ⟨n, rfl, rfl, rfl, rfl, rfl, 0, rfl, by omega, (am_cp_0 _ _ _ _ _).symm, rfl⟩ ?_
  rintro k v1 v3 v4 v5 m ⟨rfl, rfl, rfl, c, rfl, hc, rfl, rfl⟩
  refine ⟨fun h => ⟨rfl, by rw [show c = n by omega]⟩, fun h => ⟨by omega, by omega, by omega, by omega, by omega, n - (c + 1), by omega, rfl, rfl, rfl, rfl, rfl, c + 1, by omega, by omega, ?_, rfl⟩⟩
  rw [show ((j : Int) + (c : Int)).toNat = j + c by omega, show ((i : Int) + (c : Int)).toNat = i + c by omega]
  exact am_cp_s mem 4 i 7 j c (Or.inl (by omega))
theorem mp_bring_backOf_backOf {i j n : Nat} {x y z : Int} (hx : x = i) (hy : y = j) (hz : z = n) (h1 : i + n ≤ 510) (h2 : j + n ≤ 510) (ho : j ≤ i) : am_Mt l g 102 [.inr (.inl 10), .inl x, .inr (.inl 10), .inl y, .inl z] mem (am_vq 0 (am_cp mem 10 i 10 j n)) := by
  subst hx; subst hy; subst hz
  refine fm_X10_bring_backOf_backOf (fun k v1 v3 v4 v5 m => v1 = i ∧ v3 = j ∧ v4 = n ∧ ∃ c : Nat, v5 = c ∧ c ≤ n ∧ m = am_cp mem 10 i 10 j c ∧ k = n - c) ⟨n, rfl, rfl, rfl, rfl, rfl, 0, rfl, by omega, (am_cp_0 _ _ _ _ _).symm, rfl⟩ ?_
  rintro k v1 v3 v4 v5 m ⟨rfl, rfl, rfl, c, rfl, hc, rfl, rfl⟩
  refine ⟨fun h => ⟨rfl, by rw [show c = n by omega]⟩, fun h => ⟨by omega, by omega, by omega, by omega, by omega, n - (c + 1), by omega, rfl, rfl, rfl, rfl, rfl, c + 1, by omega, by omega, ?_, rfl⟩⟩
  rw [show ((j : Int) + (c : Int)).toNat = j + c by omega, show ((i : Int) + (c : Int)).toNat = i + c by omega]
  exact am_cp_s mem 10 i 10 j c (Or.inr ho)
theorem mp_bring_now_backOf {i j n : Nat} {x y z : Int} (hx : x = i) (hy : y = j) (hz : z = n) (h1 : i + n ≤ 17) (h2 : j + n ≤ 510) : am_Mt l g 102 [.inr (.inl 8), .inl x, .inr (.inl 10), .inl y, .inl z] mem (am_vq 0 (am_cp mem 8 i 10 j n)) := by
  subst hx; subst hy; subst hz
  refine fm_X10_bring_now_backOf (fun k v1 v3 v4 v5 m => v1 = i ∧ v3 = j ∧ v4 = n ∧ ∃ c : Nat, v5 = c ∧ c ≤ n ∧ m = am_cp mem 8 i 10 j c ∧ k = n - c) ⟨n, rfl, rfl, rfl, rfl, rfl, 0, rfl, by omega, (am_cp_0 _ _ _ _ _).symm, rfl⟩ ?_
  rintro k v1 v3 v4 v5 m ⟨rfl, rfl, rfl, c, rfl, hc, rfl, rfl⟩
  refine ⟨fun h => ⟨rfl, by rw [show c = n by omega]⟩, fun h => ⟨by omega, by omega, by omega, by omega, by omega, n - (c + 1), by omega, rfl, rfl, rfl, rfl, rfl, c + 1, by omega, by omega, ?_, rfl⟩⟩
  rw [show ((j : Int) + (c : Int)).toNat = j + c by omega, show ((i : Int) + (c : Int)).toNat = i + c by omega]
  exact am_cp_s mem 8 i 10 j c (Or.inl (by omega))
theorem mp_bring_backOf_now {i j n : Nat} {x y z : Int} (hx : x = i) (hy : y = j) (hz : z = n) (h1 : i + n ≤ 510) (h2 : j + n ≤ 17) : am_Mt l g 102 [.inr (.inl 10), .inl x, .inr (.inl 8), .inl y, .inl z] mem (am_vq 0 (am_cp mem 10 i 8 j n)) := by
  subst hx; subst hy; subst hz
  refine fm_X10_bring_backOf_now (fun k v1 v3 v4 v5 m => v1 = i ∧ v3 = j ∧ v4 = n ∧ ∃ c : Nat, v5 = c ∧ c ≤ n ∧ m = am_cp mem 10 i 8 j c ∧ k = n - c) ⟨n, rfl, rfl, rfl, rfl, rfl, 0, rfl, by omega, (am_cp_0 _ _ _ _ _).symm, rfl⟩ ?_
  rintro k v1 v3 v4 v5 m ⟨rfl, rfl, rfl, c, rfl, hc, rfl, rfl⟩
  refine ⟨fun h => ⟨rfl, by rw [show c = n by omega]⟩, fun h => ⟨by omega, by omega, by omega, by omega, by omega, n - (c + 1), by omega, rfl, rfl, rfl, rfl, rfl, c + 1, by omega, by omega, ?_, rfl⟩⟩
  rw [show ((j : Int) + (c : Int)).toNat = j + c by omega, show ((i : Int) + (c : Int)).toNat = i + c by omega]
  exact am_cp_s mem 10 i 8 j c (Or.inl (by omega))
theorem mp_bring_now_tried {i j n : Nat} {x y z : Int} (hx : x = i) (hy : y = j) (hz : z = n) (h1 : i + n ≤ 17) (h2 : j + n ≤ 17) : am_Mt l g 102 [.inr (.inl 8), .inl x, .inr (.inl 9), .inl y, .inl z] mem (am_vq 0 (am_cp mem 8 i 9 j n)) := by
  subst hx; subst hy; subst hz
  refine fm_X10_bring_now_tried (fun k v1 v3 v4 v5 m => v1 = i ∧ v3 = j ∧ v4 = n ∧ ∃ c : Nat, v5 = c ∧ c ≤ n ∧ m = am_cp mem 8 i 9 j c ∧ k = n - c) ⟨n, rfl, rfl, rfl, rfl, rfl, 0, rfl, by omega, (am_cp_0 _ _ _ _ _).symm, rfl⟩ ?_
  rintro k v1 v3 v4 v5 m ⟨rfl, rfl, rfl, c, rfl, hc, rfl, rfl⟩
  refine ⟨fun h => ⟨rfl, by rw [show c = n by omega]⟩, fun h => ⟨by omega, by omega, by omega, by omega, by omega, n - (c + 1), by omega, rfl, rfl, rfl, rfl, rfl, c + 1, by omega, by omega, ?_, rfl⟩⟩
  rw [show ((j : Int) + (c : Int)).toNat = j + c by omega, show ((i : Int) + (c : Int)).toNat = i + c by omega]
  exact am_cp_s mem 8 i 9 j c (Or.inl (by omega))
theorem mp_bring_now_image {i j n : Nat} {x y z : Int} (hx : x = i) (hy : y = j) (hz : z = n) (h1 : i + n ≤ 17) (h2 : j + n ≤ 34) : am_Mt l g 102 [.inr (.inl 8), .inl x, .inr (.inl 11), .inl y, .inl z] mem (am_vq 0 (am_cp mem 8 i 11 j n)) := by
  subst hx; subst hy; subst hz
  refine fm_X10_bring_now_image (fun k v1 v3 v4 v5 m => v1 = i ∧ v3 = j ∧ v4 = n ∧ ∃ c : Nat, v5 = c ∧ c ≤ n ∧ m = am_cp mem 8 i 11 j c ∧ k = n - c) ⟨n, rfl, rfl, rfl, rfl, rfl, 0, rfl, by omega, (am_cp_0 _ _ _ _ _).symm, rfl⟩ ?_
  rintro k v1 v3 v4 v5 m ⟨rfl, rfl, rfl, c, rfl, hc, rfl, rfl⟩
  refine ⟨fun h => ⟨rfl, by rw [show c = n by omega]⟩, fun h => ⟨by omega, by omega, by omega, by omega, by omega, n - (c + 1), by omega, rfl, rfl, rfl, rfl, rfl, c + 1, by omega, by omega, ?_, rfl⟩⟩
  rw [show ((j : Int) + (c : Int)).toNat = j + c by omega, show ((i : Int) + (c : Int)).toNat = i + c by omega]
  exact am_cp_s mem 8 i 11 j c (Or.inl (by omega))
theorem mp_bring_image_now {i j n : Nat} {x y z : Int} (hx : x = i) (hy : y = j) (hz : z = n) (h1 : i + n ≤ 34) (h2 : j + n ≤ 17) : am_Mt l g 102 [.inr (.inl 11), .inl x, .inr (.inl 8), .inl y, .inl z] mem (am_vq 0 (am_cp mem 11 i 8 j n)) := by
  subst hx; subst hy; subst hz
  refine fm_X10_bring_image_now (fun k v1 v3 v4 v5 m => v1 = i ∧ v3 = j ∧ v4 = n ∧ ∃ c : Nat, v5 = c ∧ c ≤ n ∧ m = am_cp mem 11 i 8 j c ∧ k = n - c) ⟨n, rfl, rfl, rfl, rfl, rfl, 0, rfl, by omega, (am_cp_0 _ _ _ _ _).symm, rfl⟩ ?_
  rintro k v1 v3 v4 v5 m ⟨rfl, rfl, rfl, c, rfl, hc, rfl, rfl⟩
  refine ⟨fun h => ⟨rfl, by rw [show c = n by omega]⟩, fun h => ⟨by omega, by omega, by omega, by omega, by omega, n - (c + 1), by omega, rfl, rfl, rfl, rfl, rfl, c + 1, by omega, by omega, ?_, rfl⟩⟩
  rw [show ((j : Int) + (c : Int)).toNat = j + c by omega, show ((i : Int) + (c : Int)).toNat = i + c by omega]
  exact am_cp_s mem 11 i 8 j c (Or.inl (by omega))
theorem mp_frontHold_n (hP : rl_MP mem) (hr : rl_rok (mem 0 16) am t (mem 8)) : am_Mt l g 113 [.inr (.inl 0), .inr (.inl 8)] mem (am_vq (rl_hf (mem 0 16).toNat (mem 8 0) (fun c => mem 8 (5 + c)) (fun c => mem 8 (9 + c))) mem) := by
  obtain ⟨-, -, -, p4, -⟩ := hP
  obtain ⟨r0, -, -, -, -, rc⟩ := hr
  refine fm_X10_frontHold_n (fun k v2 v3 m => m = mem ∧ ∃ c : Nat, v3 = c ∧ (c : Int) ≤ mem 0 16 ∧ v2 = rl_hf c (mem 8 0) (fun c => mem 8 (5 + c)) (fun c => mem 8 (9 + c)) ∧ k = 4 - c) ⟨by omega, ⟨r0.1, by omega⟩, 4, rfl, rfl, rfl, 0, rfl, by omega, by simp [rl_hf, rl_sm], rfl⟩ ?_
  rintro k v2 v3 m ⟨rfl, c, rfl, hc, rfl, rfl⟩
  have hb := rl_sm_bd (f := fun c => rl_cf (m 8 (5 + c)) (m 8 (9 + c))) (K := 99) c (fun r hq => by
    have h1 := rc r (by omega)
    exact (rl_cf_bd h1.2.1.1 h1.2.1.2).1)
  refine ⟨fun h => ⟨?_, rfl⟩, fun h => ?_⟩
  · rw [show (m 0 16).toNat = c by omega]
  · have h1 := rc c h
    have h5 := (rl_cf_bd (way := m 8 (5 + c)) h1.2.1.1 h1.2.1.2).1
    rw [rl_k5, rl_k9]
    have e : ∀ x, x = rl_cf (m 8 (5 + c)) (m 8 (9 + c)) → rl_hf c (m 8 0) (fun c => m 8 (5 + c)) (fun c => m 8 (9 + c)) + x = rl_hf (c + 1) (m 8 0) (fun c => m 8 (5 + c)) (fun c => m 8 (9 + c)) := fun x hx => by
      simp only [rl_hf, rl_sm, hx]; omega
    have hbb : ∀ x, x = rl_cf (m 8 (5 + c)) (m 8 (9 + c)) → -2147483648 ≤ rl_hf c (m 8 0) (fun c => m 8 (5 + c)) (fun c => m 8 (9 + c)) + x ∧ rl_hf c (m 8 0) (fun c => m 8 (5 + c)) (fun c => m 8 (9 + c)) + x ≤ 2147483647 := fun x hx => by
      simp only [rl_hf, hx]; omega
    have fin : ∀ x, x = rl_cf (m 8 (5 + c)) (m 8 (9 + c)) → (∃ n' : Nat, n' < 4 - c ∧ (0 : Nat) = 0 ∧ (8 : Nat) = 8 ∧ m = m ∧ ∃ c_1 : Nat, (c : Int) + 1 = c_1 ∧ (c_1 : Int) ≤ m 0 16 ∧ rl_hf c (m 8 0) (fun c => m 8 (5 + c)) (fun c => m 8 (9 + c)) + x = rl_hf c_1 (m 8 0) (fun c => m 8 (5 + c)) (fun c => m 8 (9 + c)) ∧ n' = 4 - c_1) := fun x hx =>
      ⟨4 - (c + 1), by omega, rfl, rfl, rfl, c + 1, by omega, by omega, e x hx, rfl⟩
    refine ⟨by omega, by omega, fun h2 => ⟨fun h3 => ⟨by omega, by omega, ⟨h1.2.1.1, by omega⟩, hbb _ ?_, by omega, fin _ ?_⟩, fun h3 => ⟨hbb _ ?_, by omega, fin _ ?_⟩⟩, fun h2 => ⟨by omega, by omega, hbb _ ?_, by omega, fin _ ?_⟩⟩
    all_goals simp [rl_cf, h2]
    all_goals simp [h3]
theorem mp_backHold_n (hP : rl_MP mem) (hr : rl_rok (mem 0 16) am t (mem 8)) : am_Mt l g 114 [.inr (.inl 0), .inr (.inl 8)] mem (am_vq (rl_hb (mem 0 16).toNat (mem 8 0) (fun c => mem 8 (5 + c)) (fun c => mem 8 (9 + c))) mem) := by
  obtain ⟨-, -, -, p4, -⟩ := hP
  obtain ⟨r0, -, -, -, -, rc⟩ := hr
  refine fm_X10_backHold_n (fun k v2 v3 m => m = mem ∧ ∃ c : Nat, v3 = c ∧ (c : Int) ≤ mem 0 16 ∧ v2 = rl_hb c (mem 8 0) (fun c => mem 8 (5 + c)) (fun c => mem 8 (9 + c)) ∧ k = 4 - c) ⟨by omega, by omega, ⟨r0.1, by omega⟩, ?_, 4, rfl, rfl, rfl, 0, rfl, by omega, by simp [rl_hb, rl_sm], rfl⟩ ?_
  · show _ ≤ mem 8 0 - mem 8 0 / 2 ∧ mem 8 0 - mem 8 0 / 2 ≤ _; omega
  rintro k v2 v3 m ⟨rfl, c, rfl, hc, rfl, rfl⟩
  have hb := rl_sm_bd (f := fun c => rl_cb (m 8 (5 + c)) (m 8 (9 + c))) (K := 99) c (fun r hq => by
    have h1 := rc r (by omega)
    exact (rl_cf_bd h1.2.1.1 h1.2.1.2).2)
  refine ⟨fun h => ⟨?_, rfl⟩, fun h => ?_⟩
  · rw [show (m 0 16).toNat = c by omega]
  · have h1 := rc c h
    have h5 := (rl_cf_bd (way := m 8 (5 + c)) h1.2.1.1 h1.2.1.2).2
    rw [rl_k5, rl_k9]
    have e : ∀ x, x = rl_cb (m 8 (5 + c)) (m 8 (9 + c)) → rl_hb c (m 8 0) (fun c => m 8 (5 + c)) (fun c => m 8 (9 + c)) + x = rl_hb (c + 1) (m 8 0) (fun c => m 8 (5 + c)) (fun c => m 8 (9 + c)) := fun x hx => by
      simp only [rl_hb, rl_sm, hx]; omega
    have hbb : ∀ x, x = rl_cb (m 8 (5 + c)) (m 8 (9 + c)) → -2147483648 ≤ rl_hb c (m 8 0) (fun c => m 8 (5 + c)) (fun c => m 8 (9 + c)) + x ∧ rl_hb c (m 8 0) (fun c => m 8 (5 + c)) (fun c => m 8 (9 + c)) + x ≤ 2147483647 := fun x hx => by
      simp only [rl_hb, hx]; omega
    have fin : ∀ x, x = rl_cb (m 8 (5 + c)) (m 8 (9 + c)) → (∃ n' : Nat, n' < 4 - c ∧ (0 : Nat) = 0 ∧ (8 : Nat) = 8 ∧ m = m ∧ ∃ c_1 : Nat, (c : Int) + 1 = c_1 ∧ (c_1 : Int) ≤ m 0 16 ∧ rl_hb c (m 8 0) (fun c => m 8 (5 + c)) (fun c => m 8 (9 + c)) + x = rl_hb c_1 (m 8 0) (fun c => m 8 (5 + c)) (fun c => m 8 (9 + c)) ∧ n' = 4 - c_1) := fun x hx =>
      ⟨4 - (c + 1), by omega, rfl, rfl, rfl, c + 1, by omega, by omega, e x hx, rfl⟩
    have e9 : ∀ x, x = rl_cb (m 8 (5 + c)) (m 8 (9 + c)) → -2147483648 ≤ x ∧ x ≤ 2147483647 := fun x hx => by omega
    refine ⟨by omega, by omega, fun h2 => ⟨fun h3 => ⟨by omega, by omega, by omega, by omega, ⟨h1.2.1.1, by omega⟩, e9 _ ?_, hbb _ ?_, by omega, fin _ ?_⟩, fun h3 => ⟨hbb _ ?_, by omega, fin _ ?_⟩⟩, fun h2 => ⟨by omega, by omega, hbb _ ?_, by omega, fin _ ?_⟩⟩
    all_goals (simp only [rl_cb, rl_cf]; grind)
/-- it holds by a row, with so much more at the front -/
def rl_mh_n (mem : am_Mem) (mo v : Int) : Prop := rl_ok (mem 5 1) (rl_hf (mem 0 16).toNat (mem 8 0) (fun c => mem 8 (5 + c)) (fun c => mem 8 (9 + c)) + mo) (rl_hb (mem 0 16).toNat (mem 8 0) (fun c => mem 8 (5 + c)) (fun c => mem 8 (9 + c))) v
theorem rl_mh_bd_n (hP : rl_MP mem) (hr : rl_rok (mem 0 16) am t (mem 8)) : (0 ≤ rl_hf (mem 0 16).toNat (mem 8 0) (fun c => mem 8 (5 + c)) (fun c => mem 8 (9 + c)) ∧ rl_hf (mem 0 16).toNat (mem 8 0) (fun c => mem 8 (5 + c)) (fun c => mem 8 (9 + c)) ≤ 1500) := by
  obtain ⟨-, -, -, p4, -⟩ := hP
  obtain ⟨r0, -, -, -, -, rc⟩ := hr
  have b1 := rl_sm_bd (f := fun c => rl_cf (mem 8 (5 + c)) (mem 8 (9 + c))) (K := 99) (mem 0 16).toNat (fun c hc => by
    have := rc c (by omega)
    exact (rl_cf_bd this.2.1.1 this.2.1.2).1)
  simp only [rl_hf]
  omega
theorem mp_holdsBy_n {p q mo : Int} (hP : rl_MP mem) (hr : rl_rok (mem 0 16) am t (mem 8)) (hv : 0 ≤ p + q) (hv' : p + q ≤ 140) (hm : 0 ≤ mo) (hm' : mo ≤ 99) : am_Mt l g 115 [.inr (.inl 0), .inr (.inl 8), .inl p, .inl q, .inl mo] mem (am_bq (rl_mh_n mem mo (p + q)) mem) := by
  have hb := rl_mh_bd_n hP hr
  have p2 := hP.2.1
  have h := rl_L_bd p2.1 p2.2 hv hv'
  have e : rl_F (mem 5 1) (p + q) = 2 * rl_L (mem 5 1) (p + q) / 3 := by unfold rl_F; rw [Int.mul_comm]
  have e2 : rl_Bk (mem 5 1) (p + q) = rl_L (mem 5 1) (p + q) - 2 * rl_L (mem 5 1) (p + q) / 3 := by unfold rl_Bk; rw [Int.mul_comm 2]
  refine fm_X10_holdsBy_n (am_cl (mp_liftBy p2.1 p2.2 hv hv') ⟨by omega, by omega, am_cl (mp_frontHold_n hP hr) ⟨by omega, fun h1 => am_R0 (am_b0 (fun h2 => ?_)), fun h1 => ⟨by omega, am_cl (mp_backHold_n hP hr) ⟨fun h2 => am_R0 (am_b0 (fun h3 => ?_)), fun h2 => am_R1 (am_b1 ⟨?_, ?_⟩)⟩⟩⟩⟩)
  · have := h2.1; rw [e] at this; omega
  · have := h3.2; rw [e2] at this; omega
  · rw [e]; exact h1
  · rw [e2]; exact h2
theorem mp_holds_n {p q : Int} (hP : rl_MP mem) (hr : rl_rok (mem 0 16) am t (mem 8)) (hv : 0 ≤ p + q) (hv' : p + q ≤ 140) : am_Mt l g 116 [.inr (.inl 0), .inr (.inl 8), .inl p, .inl q] mem (am_bq (rl_mh_n mem 0 (p + q)) mem) := fm_X10_holds_n (am_cbp (mp_holdsBy_n hP hr hv hv' (by omega) (by omega)))
theorem mp_pull_n {c : Nat} (hc : c < 4) : am_Mt l g 103 [.inr (.inl 0), .inr (.inl 8), .inl c] mem (am_vq 0 (am_up (am_up mem 8 (9 + c) (mem 6 (3 * c + 1))) 8 (13 + c) 0)) := by
  refine fm_X10_pull_n ⟨by omega, by omega, by omega, by omega, by omega, by omega, by omega, rfl, ?_⟩
  rw [rl_k9, rl_k1, rl_k13]
theorem mp_pullAll_n (h0 : 0 ≤ mem 0 16) (h4 : mem 0 16 ≤ 4) : am_Mt l g 104 [.inr (.inl 0), .inr (.inl 8)] mem (am_vq 0 (am_st mem 8 (rw_pull (mem 0 16).toNat (fun c => mem 6 (3 * c + 1)) (mem 8)))) := by
  refine fm_X10_pullAll_n (fun k v2 m => ∃ c : Nat, v2 = c ∧ (c : Int) ≤ mem 0 16 ∧ m = am_st mem 8 (rw_pull c (fun c => mem 6 (3 * c + 1)) (mem 8)) ∧ k = 4 - c) ⟨4, rfl, rfl, 0, rfl, h0, ?_, rfl⟩ ?_
  · funext k i; simp only [am_st, rw_pull]; grind
  · rintro k v2 m ⟨c, rfl, hc, rfl, rfl⟩
    have e4 : am_st mem 8 (rw_pull c (fun c => mem 6 (3 * c + 1)) (mem 8)) 0 16 = mem 0 16 := rfl
    rw [e4]
    refine ⟨fun h => ⟨rfl, ?_⟩, fun h => am_cl (mp_pull_n (by omega)) ⟨by omega, 4 - (c + 1), by omega, rfl, rfl, c + 1, by omega, by omega, ?_, rfl⟩⟩
    · rw [show (mem 0 16).toNat = c by omega]
    · have e6 : am_st mem 8 (rw_pull c (fun c => mem 6 (3 * c + 1)) (mem 8)) 6 = mem 6 := rfl
      rw [e6, am_up_st, am_up_st]
      congr 1
      funext i
      simp only [rw_pull]
      grind
def rl_Js_n (mem : am_Mem) : Nat → Int → am_Mem → Prop := fun k v2 m => ∃ c : Nat, v2 = c ∧ (c : Int) ≤ mem 0 16 ∧ m = am_st mem 8 (rw_slk c (fun c => mem 6 (3 * c + 2)) (mem 8)) ∧ k = 4 - c
set_option maxHeartbeats 1000000 in
theorem mp_slacken_n (hP : rl_MP mem) (hs : ∀ c : Nat, (c : Int) < mem 0 16 → (0 ≤ mem 8 (9 + c) ∧ mem 8 (9 + c) ≤ 99) ∧ (0 ≤ mem 8 (13 + c) ∧ mem 8 (13 + c) ≤ 1000)) : am_Mt l g 119 [.inr (.inl 0), .inr (.inl 8)] mem (am_vq 0 (am_st mem 8 (rw_slk (mem 0 16).toNat (fun c => mem 6 (3 * c + 2)) (mem 8)))) := by
  obtain ⟨-, -, -, p4, -, pc, -⟩ := hP
  refine fm_X10_slacken_n (rl_Js_n mem) ⟨4, rfl, rfl, 0, rfl, p4.1, ?_, rfl⟩ ?_
  · funext k i; simp only [am_st, rw_slk]; grind
  · rintro k v2 m ⟨c, rfl, hc, rfl, rfl⟩
    generalize hM : am_st mem 8 (rw_slk c (fun c => mem 6 (3 * c + 2)) (mem 8)) = M
    have e4 : M 0 16 = mem 0 16 := by subst hM; rfl
    have e6 : M 6 = mem 6 := by subst hM; rfl
    rw [e4]
    refine ⟨fun h => ⟨rfl, ?_⟩, fun h => ⟨by omega, by omega, ?_⟩⟩
    · rw [show (mem 0 16).toNat = c by omega, ← hM]
    · have hc4 : c < 4 := by omega
      have h1 := hs c h
      have h2 := (pc c h).2
      have e9 : M 8 (9 + c) = mem 8 (9 + c) := by subst hM; simp only [am_st, rw_slk]; grind
      have e13 : M 8 (13 + c) = mem 8 (13 + c) := by subst hM; simp only [am_st, rw_slk]; grind
      have hY : ∀ X, am_up M 8 (9 + c) X 8 (13 + c) = mem 8 (13 + c) := fun X => by
        rw [← e13]; simp only [am_up]; rw [if_neg (by omega)]
      have fin : ∀ X, X = rl_tb 1 (mem 8 (9 + c)) (mem 8 (13 + c)) (mem 6 (3 * c + 2)) → ∃ n' : Nat, n' < 4 - c ∧ True ∧ True ∧ rl_Js_n mem n' ((c : Int) + 1) (am_up (am_up M 8 (9 + c) X) 8 (13 + c) (mem 8 (13 + c) + 1)) := fun X hX => by
        refine ⟨4 - (c + 1), by omega, trivial, trivial, c + 1, by omega, by omega, ?_, rfl⟩
        rw [hX, ← hM, am_up_st, am_up_st]
        congr 1
        funext i
        simp only [rw_slk]
        by_cases i9 : i = 9 + c
        · subst i9
          rw [if_neg (by omega), if_pos rfl, if_pos (by omega), show 9 + c + 4 = 13 + c by omega, show 9 + c - 9 = c by omega]
        · by_cases i13 : i = 13 + c
          · subst i13
            rw [if_pos rfl, if_neg (by omega), if_pos (by omega)]
          · rw [if_neg i13, if_neg i9]
            grind
      rw [rl_k13, rl_k9, rl_k2, e6]
      simp only [e9, e13, hY]
      repeat' first
        | exact fin _ (by rw [rl_tb1a (by omega)]; omega)
        | exact fin _ (by rw [rl_tb1b (by omega)]; omega)
        | refine ⟨fun _ => ?_, fun _ => ?_⟩
        | refine ⟨by omega, ?_⟩
/-- what a row needs to be held by -/
def rl_hok (nc : Int) (w : Nat → Int) : Prop := (0 ≤ w 0 ∧ w 0 ≤ 999) ∧ ∀ c : Nat, (c : Int) < nc → True ∧ (0 ≤ w (9 + c) ∧ w (9 + c) ≤ 99) ∧ True
theorem rl_hok_of {nc am t : Int} {w : Nat → Int} (h : rl_rok nc am t w) : rl_hok nc w := ⟨h.1, fun c hc => ⟨trivial, (h.2.2.2.2.2 c hc).2.1, trivial⟩⟩
theorem mp_frontHold_t (hP : rl_MP mem) (hr : rl_hok (mem 0 16) (mem 9)) : am_Mt l g 113 [.inr (.inl 0), .inr (.inl 9)] mem (am_vq (rl_hf (mem 0 16).toNat (mem 9 0) (fun c => mem 9 (5 + c)) (fun c => mem 9 (9 + c))) mem) := by
  obtain ⟨-, -, -, p4, -⟩ := hP
  obtain ⟨r0, rc⟩ := hr
  refine fm_X10_frontHold_t (fun k v2 v3 m => m = mem ∧ ∃ c : Nat, v3 = c ∧ (c : Int) ≤ mem 0 16 ∧ v2 = rl_hf c (mem 9 0) (fun c => mem 9 (5 + c)) (fun c => mem 9 (9 + c)) ∧ k = 4 - c) ⟨by omega, ⟨r0.1, by omega⟩, 4, rfl, rfl, rfl, 0, rfl, by omega, by simp [rl_hf, rl_sm], rfl⟩ ?_
  rintro k v2 v3 m ⟨rfl, c, rfl, hc, rfl, rfl⟩
  have hb := rl_sm_bd (f := fun c => rl_cf (m 9 (5 + c)) (m 9 (9 + c))) (K := 99) c (fun r hq => by
    have h1 := rc r (by omega)
    exact (rl_cf_bd h1.2.1.1 h1.2.1.2).1)
  refine ⟨fun h => ⟨?_, rfl⟩, fun h => ?_⟩
  · rw [show (m 0 16).toNat = c by omega]
  · have h1 := rc c h
    have h5 := (rl_cf_bd (way := m 9 (5 + c)) h1.2.1.1 h1.2.1.2).1
    rw [rl_k5, rl_k9]
    have e : ∀ x, x = rl_cf (m 9 (5 + c)) (m 9 (9 + c)) → rl_hf c (m 9 0) (fun c => m 9 (5 + c)) (fun c => m 9 (9 + c)) + x = rl_hf (c + 1) (m 9 0) (fun c => m 9 (5 + c)) (fun c => m 9 (9 + c)) := fun x hx => by
      simp only [rl_hf, rl_sm, hx]; omega
    have hbb : ∀ x, x = rl_cf (m 9 (5 + c)) (m 9 (9 + c)) → -2147483648 ≤ rl_hf c (m 9 0) (fun c => m 9 (5 + c)) (fun c => m 9 (9 + c)) + x ∧ rl_hf c (m 9 0) (fun c => m 9 (5 + c)) (fun c => m 9 (9 + c)) + x ≤ 2147483647 := fun x hx => by
      simp only [rl_hf, hx]; omega
    have fin : ∀ x, x = rl_cf (m 9 (5 + c)) (m 9 (9 + c)) → (∃ n' : Nat, n' < 4 - c ∧ (0 : Nat) = 0 ∧ (9 : Nat) = 9 ∧ m = m ∧ ∃ c_1 : Nat, (c : Int) + 1 = c_1 ∧ (c_1 : Int) ≤ m 0 16 ∧ rl_hf c (m 9 0) (fun c => m 9 (5 + c)) (fun c => m 9 (9 + c)) + x = rl_hf c_1 (m 9 0) (fun c => m 9 (5 + c)) (fun c => m 9 (9 + c)) ∧ n' = 4 - c_1) := fun x hx =>
      ⟨4 - (c + 1), by omega, rfl, rfl, rfl, c + 1, by omega, by omega, e x hx, rfl⟩
    refine ⟨by omega, by omega, fun h2 => ⟨fun h3 => ⟨by omega, by omega, ⟨h1.2.1.1, by omega⟩, hbb _ ?_, by omega, fin _ ?_⟩, fun h3 => ⟨hbb _ ?_, by omega, fin _ ?_⟩⟩, fun h2 => ⟨by omega, by omega, hbb _ ?_, by omega, fin _ ?_⟩⟩
    all_goals simp [rl_cf, h2]
    all_goals simp [h3]
theorem mp_backHold_t (hP : rl_MP mem) (hr : rl_hok (mem 0 16) (mem 9)) : am_Mt l g 114 [.inr (.inl 0), .inr (.inl 9)] mem (am_vq (rl_hb (mem 0 16).toNat (mem 9 0) (fun c => mem 9 (5 + c)) (fun c => mem 9 (9 + c))) mem) := by
  obtain ⟨-, -, -, p4, -⟩ := hP
  obtain ⟨r0, rc⟩ := hr
  refine fm_X10_backHold_t (fun k v2 v3 m => m = mem ∧ ∃ c : Nat, v3 = c ∧ (c : Int) ≤ mem 0 16 ∧ v2 = rl_hb c (mem 9 0) (fun c => mem 9 (5 + c)) (fun c => mem 9 (9 + c)) ∧ k = 4 - c) ⟨by omega, by omega, ⟨r0.1, by omega⟩, ?_, 4, rfl, rfl, rfl, 0, rfl, by omega, by simp [rl_hb, rl_sm], rfl⟩ ?_
  · show _ ≤ mem 9 0 - mem 9 0 / 2 ∧ mem 9 0 - mem 9 0 / 2 ≤ _; omega
  rintro k v2 v3 m ⟨rfl, c, rfl, hc, rfl, rfl⟩
  have hb := rl_sm_bd (f := fun c => rl_cb (m 9 (5 + c)) (m 9 (9 + c))) (K := 99) c (fun r hq => by
    have h1 := rc r (by omega)
    exact (rl_cf_bd h1.2.1.1 h1.2.1.2).2)
  refine ⟨fun h => ⟨?_, rfl⟩, fun h => ?_⟩
  · rw [show (m 0 16).toNat = c by omega]
  · have h1 := rc c h
    have h5 := (rl_cf_bd (way := m 9 (5 + c)) h1.2.1.1 h1.2.1.2).2
    rw [rl_k5, rl_k9]
    have e : ∀ x, x = rl_cb (m 9 (5 + c)) (m 9 (9 + c)) → rl_hb c (m 9 0) (fun c => m 9 (5 + c)) (fun c => m 9 (9 + c)) + x = rl_hb (c + 1) (m 9 0) (fun c => m 9 (5 + c)) (fun c => m 9 (9 + c)) := fun x hx => by
      simp only [rl_hb, rl_sm, hx]; omega
    have hbb : ∀ x, x = rl_cb (m 9 (5 + c)) (m 9 (9 + c)) → -2147483648 ≤ rl_hb c (m 9 0) (fun c => m 9 (5 + c)) (fun c => m 9 (9 + c)) + x ∧ rl_hb c (m 9 0) (fun c => m 9 (5 + c)) (fun c => m 9 (9 + c)) + x ≤ 2147483647 := fun x hx => by
      simp only [rl_hb, hx]; omega
    have fin : ∀ x, x = rl_cb (m 9 (5 + c)) (m 9 (9 + c)) → (∃ n' : Nat, n' < 4 - c ∧ (0 : Nat) = 0 ∧ (9 : Nat) = 9 ∧ m = m ∧ ∃ c_1 : Nat, (c : Int) + 1 = c_1 ∧ (c_1 : Int) ≤ m 0 16 ∧ rl_hb c (m 9 0) (fun c => m 9 (5 + c)) (fun c => m 9 (9 + c)) + x = rl_hb c_1 (m 9 0) (fun c => m 9 (5 + c)) (fun c => m 9 (9 + c)) ∧ n' = 4 - c_1) := fun x hx =>
      ⟨4 - (c + 1), by omega, rfl, rfl, rfl, c + 1, by omega, by omega, e x hx, rfl⟩
    have e9 : ∀ x, x = rl_cb (m 9 (5 + c)) (m 9 (9 + c)) → -2147483648 ≤ x ∧ x ≤ 2147483647 := fun x hx => by omega
    refine ⟨by omega, by omega, fun h2 => ⟨fun h3 => ⟨by omega, by omega, by omega, by omega, ⟨h1.2.1.1, by omega⟩, e9 _ ?_, hbb _ ?_, by omega, fin _ ?_⟩, fun h3 => ⟨hbb _ ?_, by omega, fin _ ?_⟩⟩, fun h2 => ⟨by omega, by omega, hbb _ ?_, by omega, fin _ ?_⟩⟩
    all_goals (simp only [rl_cb, rl_cf]; grind)
/-- it holds by a row, with so much more at the front -/
def rl_mh_t (mem : am_Mem) (mo v : Int) : Prop := rl_ok (mem 5 1) (rl_hf (mem 0 16).toNat (mem 9 0) (fun c => mem 9 (5 + c)) (fun c => mem 9 (9 + c)) + mo) (rl_hb (mem 0 16).toNat (mem 9 0) (fun c => mem 9 (5 + c)) (fun c => mem 9 (9 + c))) v
theorem rl_mh_bd_t (hP : rl_MP mem) (hr : rl_hok (mem 0 16) (mem 9)) : (0 ≤ rl_hf (mem 0 16).toNat (mem 9 0) (fun c => mem 9 (5 + c)) (fun c => mem 9 (9 + c)) ∧ rl_hf (mem 0 16).toNat (mem 9 0) (fun c => mem 9 (5 + c)) (fun c => mem 9 (9 + c)) ≤ 1500) := by
  obtain ⟨-, -, -, p4, -⟩ := hP
  obtain ⟨r0, rc⟩ := hr
  have b1 := rl_sm_bd (f := fun c => rl_cf (mem 9 (5 + c)) (mem 9 (9 + c))) (K := 99) (mem 0 16).toNat (fun c hc => by
    have := rc c (by omega)
    exact (rl_cf_bd this.2.1.1 this.2.1.2).1)
  simp only [rl_hf]
  omega
theorem mp_holdsBy_t {p q mo : Int} (hP : rl_MP mem) (hr : rl_hok (mem 0 16) (mem 9)) (hv : 0 ≤ p + q) (hv' : p + q ≤ 140) (hm : 0 ≤ mo) (hm' : mo ≤ 99) : am_Mt l g 115 [.inr (.inl 0), .inr (.inl 9), .inl p, .inl q, .inl mo] mem (am_bq (rl_mh_t mem mo (p + q)) mem) := by
  have hb := rl_mh_bd_t hP hr
  have p2 := hP.2.1
  have h := rl_L_bd p2.1 p2.2 hv hv'
  have e : rl_F (mem 5 1) (p + q) = 2 * rl_L (mem 5 1) (p + q) / 3 := by unfold rl_F; rw [Int.mul_comm]
  have e2 : rl_Bk (mem 5 1) (p + q) = rl_L (mem 5 1) (p + q) - 2 * rl_L (mem 5 1) (p + q) / 3 := by unfold rl_Bk; rw [Int.mul_comm 2]
  refine fm_X10_holdsBy_t (am_cl (mp_liftBy p2.1 p2.2 hv hv') ⟨by omega, by omega, am_cl (mp_frontHold_t hP hr) ⟨by omega, fun h1 => am_R0 (am_b0 (fun h2 => ?_)), fun h1 => ⟨by omega, am_cl (mp_backHold_t hP hr) ⟨fun h2 => am_R0 (am_b0 (fun h3 => ?_)), fun h2 => am_R1 (am_b1 ⟨?_, ?_⟩)⟩⟩⟩⟩)
  · have := h2.1; rw [e] at this; omega
  · have := h3.2; rw [e2] at this; omega
  · rw [e]; exact h1
  · rw [e2]; exact h2
theorem mp_holds_t {p q : Int} (hP : rl_MP mem) (hr : rl_hok (mem 0 16) (mem 9)) (hv : 0 ≤ p + q) (hv' : p + q ≤ 140) : am_Mt l g 116 [.inr (.inl 0), .inr (.inl 9), .inl p, .inl q] mem (am_bq (rl_mh_t mem 0 (p + q)) mem) := fm_X10_holds_t (am_cbp (mp_holdsBy_t hP hr hv hv' (by omega) (by omega)))
theorem mp_pull_t {c : Nat} (hc : c < 4) : am_Mt l g 103 [.inr (.inl 0), .inr (.inl 9), .inl c] mem (am_vq 0 (am_up (am_up mem 9 (9 + c) (mem 6 (3 * c + 1))) 9 (13 + c) 0)) := by
  refine fm_X10_pull_t ⟨by omega, by omega, by omega, by omega, by omega, by omega, by omega, rfl, ?_⟩
  rw [rl_k9, rl_k1, rl_k13]
theorem mp_pullAll_t (h0 : 0 ≤ mem 0 16) (h4 : mem 0 16 ≤ 4) : am_Mt l g 104 [.inr (.inl 0), .inr (.inl 9)] mem (am_vq 0 (am_st mem 9 (rw_pull (mem 0 16).toNat (fun c => mem 6 (3 * c + 1)) (mem 9)))) := by
  refine fm_X10_pullAll_t (fun k v2 m => ∃ c : Nat, v2 = c ∧ (c : Int) ≤ mem 0 16 ∧ m = am_st mem 9 (rw_pull c (fun c => mem 6 (3 * c + 1)) (mem 9)) ∧ k = 4 - c) ⟨4, rfl, rfl, 0, rfl, h0, ?_, rfl⟩ ?_
  · funext k i; simp only [am_st, rw_pull]; grind
  · rintro k v2 m ⟨c, rfl, hc, rfl, rfl⟩
    have e4 : am_st mem 9 (rw_pull c (fun c => mem 6 (3 * c + 1)) (mem 9)) 0 16 = mem 0 16 := rfl
    rw [e4]
    refine ⟨fun h => ⟨rfl, ?_⟩, fun h => am_cl (mp_pull_t (by omega)) ⟨by omega, 4 - (c + 1), by omega, rfl, rfl, c + 1, by omega, by omega, ?_, rfl⟩⟩
    · rw [show (mem 0 16).toNat = c by omega]
    · have e6 : am_st mem 9 (rw_pull c (fun c => mem 6 (3 * c + 1)) (mem 9)) 6 = mem 6 := rfl
      rw [e6, am_up_st, am_up_st]
      congr 1
      funext i
      simp only [rw_pull]
      grind
def rl_Js_t (mem : am_Mem) : Nat → Int → am_Mem → Prop := fun k v2 m => ∃ c : Nat, v2 = c ∧ (c : Int) ≤ mem 0 16 ∧ m = am_st mem 9 (rw_slk c (fun c => mem 6 (3 * c + 2)) (mem 9)) ∧ k = 4 - c
set_option maxHeartbeats 1000000 in
theorem mp_slacken_t (hP : rl_MP mem) (hs : ∀ c : Nat, (c : Int) < mem 0 16 → (0 ≤ mem 9 (9 + c) ∧ mem 9 (9 + c) ≤ 99) ∧ (0 ≤ mem 9 (13 + c) ∧ mem 9 (13 + c) ≤ 1000)) : am_Mt l g 119 [.inr (.inl 0), .inr (.inl 9)] mem (am_vq 0 (am_st mem 9 (rw_slk (mem 0 16).toNat (fun c => mem 6 (3 * c + 2)) (mem 9)))) := by
  obtain ⟨-, -, -, p4, -, pc, -⟩ := hP
  refine fm_X10_slacken_t (rl_Js_t mem) ⟨4, rfl, rfl, 0, rfl, p4.1, ?_, rfl⟩ ?_
  · funext k i; simp only [am_st, rw_slk]; grind
  · rintro k v2 m ⟨c, rfl, hc, rfl, rfl⟩
    generalize hM : am_st mem 9 (rw_slk c (fun c => mem 6 (3 * c + 2)) (mem 9)) = M
    have e4 : M 0 16 = mem 0 16 := by subst hM; rfl
    have e6 : M 6 = mem 6 := by subst hM; rfl
    rw [e4]
    refine ⟨fun h => ⟨rfl, ?_⟩, fun h => ⟨by omega, by omega, ?_⟩⟩
    · rw [show (mem 0 16).toNat = c by omega, ← hM]
    · have hc4 : c < 4 := by omega
      have h1 := hs c h
      have h2 := (pc c h).2
      have e9 : M 9 (9 + c) = mem 9 (9 + c) := by subst hM; simp only [am_st, rw_slk]; grind
      have e13 : M 9 (13 + c) = mem 9 (13 + c) := by subst hM; simp only [am_st, rw_slk]; grind
      have hY : ∀ X, am_up M 9 (9 + c) X 9 (13 + c) = mem 9 (13 + c) := fun X => by
        rw [← e13]; simp only [am_up]; rw [if_neg (by omega)]
      have fin : ∀ X, X = rl_tb 1 (mem 9 (9 + c)) (mem 9 (13 + c)) (mem 6 (3 * c + 2)) → ∃ n' : Nat, n' < 4 - c ∧ True ∧ True ∧ rl_Js_t mem n' ((c : Int) + 1) (am_up (am_up M 9 (9 + c) X) 9 (13 + c) (mem 9 (13 + c) + 1)) := fun X hX => by
        refine ⟨4 - (c + 1), by omega, trivial, trivial, c + 1, by omega, by omega, ?_, rfl⟩
        rw [hX, ← hM, am_up_st, am_up_st]
        congr 1
        funext i
        simp only [rw_slk]
        by_cases i9 : i = 9 + c
        · subst i9
          rw [if_neg (by omega), if_pos rfl, if_pos (by omega), show 9 + c + 4 = 13 + c by omega, show 9 + c - 9 = c by omega]
        · by_cases i13 : i = 13 + c
          · subst i13
            rw [if_pos rfl, if_neg (by omega), if_pos (by omega)]
          · rw [if_neg i13, if_neg i9]
            grind
      rw [rl_k13, rl_k9, rl_k2, e6]
      simp only [e9, e13, hY]
      repeat' first
        | exact fin _ (by rw [rl_tb1a (by omega)]; omega)
        | exact fin _ (by rw [rl_tb1b (by omega)]; omega)
        | refine ⟨fun _ => ?_, fun _ => ?_⟩
        | refine ⟨by omega, ?_⟩
end M1
