/-! calls inside formulas; pure words -/
def am_vq (v : Int) (m0 : am_Mem) : am_Po := fun z m => z = v ∧ m = m0
def am_bq (c : Prop) (m0 : am_Mem) : am_Po := fun z m => m = m0 ∧ ((c ∧ z = 1) ∨ (¬ c ∧ z = 0))
section CL
variable {l : Launch} {g : am_G} {y : Nat} {as : List am_AV} {mem m0 : am_Mem} {v : Int} {c : Prop}
theorem am_cl {F : Int → am_Mem → Prop} (h : am_Mt l g y as mem (am_vq v m0)) (k : F v m0) : ∃ q : am_Po, am_Mt l g y as mem q ∧ ∀ (z : Int) (m : am_Mem), q z m → F z m := ⟨_, h, fun z m hq => by obtain ⟨rfl, rfl⟩ := hq; exact k⟩
theorem am_cv {F : am_Mem → Prop} (h : am_Mt l g y as mem (am_vq 0 m0)) (k : F m0) : ∃ q : am_Po, am_Mt l g y as mem q ∧ ∀ (z : Int) (m : am_Mem), q z m → F m := ⟨_, h, fun z m hq => by obtain ⟨rfl, rfl⟩ := hq; exact k⟩
theorem am_cbn {X Y : Int → am_Mem → Prop} (h : am_Mt l g y as mem (am_bq c m0)) (ht : c → X 1 m0) (hf : ¬ c → Y 0 m0) : ∃ q : am_Po, am_Mt l g y as mem q ∧ ∀ (z : Int) (m : am_Mem), q z m → ((¬ z = (0 : Int) → X z m) ∧ (z = (0 : Int) → Y z m)) := ⟨_, h, fun z m hq => by
  obtain ⟨rfl, ⟨hc, rfl⟩ | ⟨hc, rfl⟩⟩ := hq
  · exact ⟨fun _ => ht hc, fun h => absurd h (by decide)⟩
  · exact ⟨fun h => absurd rfl h, fun _ => hf hc⟩⟩
theorem am_cbe {X Y : Int → am_Mem → Prop} (h : am_Mt l g y as mem (am_bq c m0)) (ht : c → Y 1 m0) (hf : ¬ c → X 0 m0) : ∃ q : am_Po, am_Mt l g y as mem q ∧ ∀ (z : Int) (m : am_Mem), q z m → ((z = (0 : Int) → X z m) ∧ (¬ z = (0 : Int) → Y z m)) := ⟨_, h, fun z m hq => by
  obtain ⟨rfl, ⟨hc, rfl⟩ | ⟨hc, rfl⟩⟩ := hq
  · exact ⟨fun h => absurd h (by decide), fun _ => ht hc⟩
  · exact ⟨fun _ => hf hc, fun h => absurd rfl h⟩⟩
theorem am_cbp (h : am_Mt l g y as mem (am_bq c m0)) : ∃ q : am_Po, am_Mt l g y as mem q ∧ ∀ (z : Int) (m : am_Mem), q z m → ((z = (0 : Int) ∨ z = (1 : Int)) ∧ am_bq c m0 z m) := ⟨_, h, fun z m hq => by
  refine ⟨?_, hq⟩
  obtain ⟨rfl, ⟨hc, rfl⟩ | ⟨hc, rfl⟩⟩ := hq
  · exact Or.inr rfl
  · exact Or.inl rfl⟩
theorem am_cq {F : Int → am_Mem → Prop} {q : am_Po} (h : am_Mt l g y as mem q) (k : ∀ z m, q z m → F z m) : ∃ q : am_Po, am_Mt l g y as mem q ∧ ∀ (z : Int) (m : am_Mem), q z m → F z m := ⟨q, h, k⟩
theorem am_R1 {X : Prop} (h : X) : (((1 : Int) = 0 ∨ (1 : Int) = 1) ∧ X) := ⟨Or.inr rfl, h⟩
theorem am_R0 {X : Prop} (h : X) : (((0 : Int) = 0 ∨ (0 : Int) = 1) ∧ X) := ⟨Or.inl rfl, h⟩
theorem am_b1 {m0 : am_Mem} {c : Prop} (h : c) : am_bq c m0 1 m0 := ⟨rfl, Or.inl ⟨h, rfl⟩⟩
theorem am_b0 {m0 : am_Mem} {c : Prop} (h : ¬ c) : am_bq c m0 0 m0 := ⟨rfl, Or.inr ⟨h, rfl⟩⟩
theorem am_v0 {v : Int} {m0 : am_Mem} : am_vq v m0 v m0 := ⟨rfl, rfl⟩
end CL
theorem am_mulb {a b A B : Int} (ha : 0 ≤ a) (hA : a ≤ A) (hb : 0 ≤ b) (hB : b ≤ B) : 0 ≤ a * b ∧ a * b ≤ A * B := ⟨Int.mul_nonneg ha hb, Int.mul_le_mul hA hB hb (by omega)⟩
/-- finite sums -/
def rl_sm : Nat → (Nat → Int) → Int
  | 0, _ => 0
  | n + 1, f => rl_sm n f + f n
theorem rl_sm_cg {f h : Nat → Int} : ∀ (n : Nat), (∀ c, c < n → f c = h c) → rl_sm n f = rl_sm n h
  | 0, _ => rfl
  | n + 1, H => by rw [rl_sm, rl_sm, rl_sm_cg n (fun c hc => H c (by omega)), H n (by omega)]
theorem rl_sm_bd {f : Nat → Int} {K : Int} : ∀ (n : Nat), (∀ c, c < n → 0 ≤ f c ∧ f c ≤ K) → 0 ≤ rl_sm n f ∧ rl_sm n f ≤ K * n
  | 0, _ => by simp [rl_sm]
  | n + 1, H => by
    have h1 := rl_sm_bd n (fun c hc => H c (by omega))
    have h2 := H n (by omega)
    rw [rl_sm]
    have : K * ((n + 1 : Nat) : Int) = K * n + K := by rw [Int.natCast_add, Int.mul_add]; simp
    omega
theorem rl_sm_mono {f : Nat → Int} (n : Nat) : ∀ (m : Nat), n ≤ m → (∀ c, c < m → 0 ≤ f c) → rl_sm n f ≤ rl_sm m f
  | 0, h, _ => by have : n = 0 := by omega
                  subst this; exact Int.le_refl _
  | m + 1, h, H => by
    by_cases e : n = m + 1
    · subst e; exact Int.le_refl _
    · have h1 := rl_sm_mono n m (by omega) (fun c hc => H c (by omega))
      have h2 := H m (by omega)
      rw [rl_sm]; omega
/-- lift, hold, slack -/
def rl_L (A v : Int) : Int := A * v * v / 400
def rl_F (A v : Int) : Int := rl_L A v * 2 / 3
def rl_Bk (A v : Int) : Int := rl_L A v - rl_L A v * 2 / 3
theorem rl_L_bd {A v : Int} (hA : 0 ≤ A) (hA' : A ≤ 40) (hv : 0 ≤ v) (hv' : v ≤ 140) : (0 ≤ A * v ∧ A * v ≤ 5600) ∧ (0 ≤ A * v * v ∧ A * v * v ≤ 784000) ∧ 0 ≤ rl_L A v ∧ rl_L A v ≤ 1960 := by
  have h1 := am_mulb hA hA' hv hv'
  have h2 := am_mulb h1.1 h1.2 hv hv'
  unfold rl_L
  omega
theorem rl_FB {A v : Int} (hA : 0 ≤ A) (hA' : A ≤ 40) (hv : 0 ≤ v) (hv' : v ≤ 140) : 0 ≤ rl_F A v ∧ rl_F A v ≤ 1960 ∧ 0 ≤ rl_Bk A v ∧ rl_Bk A v ≤ 1960 := by
  have := (rl_L_bd hA hA' hv hv').2.2
  unfold rl_F rl_Bk
  omega
def rl_cf (way t : Int) : Int := if way = 0 then t else if way = 2 then 0 else t / 2
def rl_cb (way t : Int) : Int := t - rl_cf way t
theorem rl_cf_bd {way t : Int} (h : 0 ≤ t) (h' : t ≤ 99) : (0 ≤ rl_cf way t ∧ rl_cf way t ≤ 99) ∧ (0 ≤ rl_cb way t ∧ rl_cb way t ≤ 99) := by
  unfold rl_cb rl_cf
  split
  · omega
  · split <;> omega
/-- how tight n miles on -/
def rl_tb (n t s gv : Int) : Int := max 0 (t - gv * (n + min n (max 0 (4 - s))))
theorem rl_tb_bd {n t s gv : Int} (ht : 0 ≤ t) (ht' : t ≤ 99) (hg : 0 ≤ gv) (hn : 0 ≤ n) : 0 ≤ rl_tb n t s gv ∧ rl_tb n t s gv ≤ 99 := by
  have : 0 ≤ gv * (n + min n (max 0 (4 - s))) := Int.mul_nonneg hg (by omega)
  unfold rl_tb
  omega
theorem rl_tb_0 {t s gv : Int} (ht : 0 ≤ t) : rl_tb 0 t s gv = t := by
  unfold rl_tb
  have : min (0 : Int) (max 0 (4 - s)) = 0 := by omega
  rw [this]
  simp
  omega
def rl_hf (nc : Nat) (wt : Int) (ways tights : Nat → Int) : Int := wt / 2 + rl_sm nc (fun c => rl_cf (ways c) (tights c))
def rl_hb (nc : Nat) (wt : Int) (ways tights : Nat → Int) : Int := wt - wt / 2 + rl_sm nc (fun c => rl_cb (ways c) (tights c))
