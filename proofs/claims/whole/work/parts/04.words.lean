/-! words of the tables that every method takes along; places of the world -/
def am_gt : List Cond := lw_tbl.filter goodWord
def am_isn : Cond → Bool
  | .methodLinkNest _ _ _ _ => true
  | _ => false
def am_nt : List Cond := lw_tbl.filter am_isn
def am_isw (pl : Nat) (w : Cond) : Bool := decide (lw_tbl[pl]? = some w) && goodWord w
theorem am_isw_mem {pl : Nat} {w : Cond} (h : am_isw pl w = true) : w ∈ am_gt := by
  simp only [am_isw, Bool.and_eq_true, decide_eq_true_eq] at h
  exact List.mem_filter.mpr ⟨List.mem_of_getElem? h.1, h.2⟩
theorem am_gt_good : GoodIn am_gt am_gt := fun w hw => ⟨hw, good_of_word (List.mem_filter.mp hw).2⟩
theorem am_good_code {w : Cond} {ws : List Cond} (hw : w ∈ am_gt) : GoodIn am_gt (w :: am_gt) := fun q hq => by
  rcases List.mem_cons.mp hq with h | h
  · subst h; exact am_gt_good _ hw
  · exact am_gt_good q h
abbrev am_G : Type := va_G × (Nat → Nat) × ClassId × ClassId
def am_A (g : am_G) : Nat → Prop := fun q => ∃ k, k < 63 ∧ q = g.2.1 k
def am_fv (ad : Nat → Nat) (mem : am_Mem) (a : Nat) : Nat → List Nat → List Value
  | _, [] => []
  | j, 0 :: r => .int (Int32.ofInt (mem a j)) :: am_fv ad mem a (j + 1) r
  | j, 1 :: r => .int (Int32.ofInt (mem a j)) :: am_fv ad mem a (j + 1) r
  | j, (k + 2) :: r => .ref (ad k) :: am_fv ad mem a (j + 1) r
def am_ce (g : am_G) (mem : am_Mem) (a : Nat) : am_SC → va_E
  | .inl (z, n) => .inl (bif z then g.2.2.2 else g.2.2.1, n, .inl (fun j => Int32.ofInt (mem a j)))
  | .inr (ci, fks) => .inr (ci, am_fv g.2.1 mem a 0 fks)
def am_wl (g : am_G) (mem : am_Mem) : Nat → List am_SC → va_W
  | _, [] => []
  | k, c :: r => (g.2.1 k, am_ce g mem k c) :: am_wl g mem (k + 1) r
def am_wo (g : am_G) (mem : am_Mem) : va_W := am_wl g mem 0 am_SHL
theorem am_wl_get (g : am_G) (mem : am_Mem) : ∀ (L : List am_SC) (k i : Nat), (am_wl g mem k L)[i]? = (L[i]?).map (fun c => (g.2.1 (k + i), am_ce g mem (k + i) c))
  | [], k, i => by simp [am_wl]
  | c :: r, k, 0 => by simp [am_wl]
  | c :: r, k, i + 1 => by
    simp only [am_wl, List.getElem?_cons_succ]
    rw [am_wl_get g mem r (k + 1) i, Nat.add_assoc k 1 i, Nat.add_comm 1 i]
theorem am_wo_get (g : am_G) (mem : am_Mem) {a : Nat} {c : am_SC} (h : am_SH a = some c) : (am_wo g mem)[a]? = some (g.2.1 a, am_ce g mem a c) := by
  have := am_wl_get g mem am_SHL 0 a
  rw [show am_SHL[a]? = some c from h] at this
  simpa [am_wo] using this
theorem am_sh_lt {a : Nat} {c : am_SC} (h : am_SH a = some c) : a < 63 := by
  have := (List.getElem?_eq_some_iff.mp h).1
  have h63 : am_SHL.length = 63 := by decide +kernel
  omega
theorem am_wo_inv (g : am_G) (mem : am_Mem) {i : Nat} {q : Nat × va_E} (h : (am_wo g mem)[i]? = some q) : i < 63 ∧ q.1 = g.2.1 i := by
  have h1 := am_wl_get g mem am_SHL 0 i
  rw [show am_wl g mem 0 am_SHL = am_wo g mem from rfl, h] at h1
  cases hc : am_SHL[i]? with
  | none => rw [hc] at h1; cases h1
  | some c =>
    rw [hc] at h1
    have := Option.some.inj h1
    subst this
    exact ⟨am_sh_lt hc, by simp⟩
def am_inj (g : am_G) : Prop := ∀ i j, i < 63 → j < 63 → g.2.1 i = g.2.1 j → i = j
theorem am_wo_D {g : am_G} {A : Nat → Prop} (hi : am_inj g) (hA : ∀ k, k < 63 → A (g.2.1 k)) (mem : am_Mem) : va_D A (am_wo g mem) := by
  refine ⟨fun i j x y hx hy hxy => ?_, fun k q hk => ?_⟩
  · obtain ⟨h1, h2⟩ := am_wo_inv g mem hx
    obtain ⟨h3, h4⟩ := am_wo_inv g mem hy
    exact hi i j h1 h3 (by rw [← h2, ← h4, hxy])
  · obtain ⟨h1, h2⟩ := am_wo_inv g mem hk
    rw [h2]; exact hA k h1
/-- one cell is written -/
theorem am_wo_set (g : am_G) {mem mem' : am_Mem} {a : Nat} {c : am_SC} (h : am_SH a = some c) (ho : ∀ k, k ≠ a → ∀ c', am_ce g mem' k c' = am_ce g mem k c') : (am_wo g mem).set a (g.2.1 a, am_ce g mem' a c) = am_wo g mem' := by
  apply List.ext_getElem?
  intro i
  rw [List.getElem?_set]
  by_cases hi : a = i
  · subst hi
    rw [if_pos rfl, am_wo_get g mem' h]
    have : a < (am_wo g mem).length := (List.getElem?_eq_some_iff.mp (am_wo_get g mem h)).1
    simp [this]
  · rw [if_neg hi]
    have h1 := am_wl_get g mem am_SHL 0 i
    have h2 := am_wl_get g mem' am_SHL 0 i
    rw [show am_wo g mem = am_wl g mem 0 am_SHL from rfl, show am_wo g mem' = am_wl g mem' 0 am_SHL from rfl, h1, h2]
    cases am_SHL[i]? with
    | none => rfl
    | some c' =>
      simp only [Option.map_some, Nat.zero_add]
      rw [ho i (fun e => hi e.symm) c']
theorem am_fv_ext (ad : Nat → Nat) {mem mem' : am_Mem} {k : Nat} : ∀ (fks : List Nat) (j : Nat), (∀ i, mem' k i = mem k i) → am_fv ad mem' k j fks = am_fv ad mem k j fks
  | [], _, _ => rfl
  | 0 :: r, j, h => by simp only [am_fv, h j, am_fv_ext ad r (j + 1) h]
  | 1 :: r, j, h => by simp only [am_fv, h j, am_fv_ext ad r (j + 1) h]
  | (q + 2) :: r, j, h => by simp only [am_fv, am_fv_ext ad r (j + 1) h]
theorem am_ce_ext (g : am_G) {mem mem' : am_Mem} {k : Nat} (h : ∀ i, mem' k i = mem k i) (c : am_SC) : am_ce g mem' k c = am_ce g mem k c := by
  cases c with
  | inl q => obtain ⟨z, n⟩ := q; simp only [am_ce, h]
  | inr q => obtain ⟨ci, fks⟩ := q; simp only [am_ce, am_fv_ext g.2.1 fks 0 h]
theorem am_up_ne {mem : am_Mem} {a j k i : Nat} {z : Int} (h : k ≠ a) : am_up mem a j z k i = mem k i := by simp [am_up, h]
theorem am_cp_ne {mem : am_Mem} {a sp b dp n k i : Nat} (h : k ≠ b) : am_cp mem a sp b dp n k i = mem k i := by simp [am_cp, h]
theorem am_fv_get (ad : Nat → Nat) (mem : am_Mem) (a : Nat) : ∀ (fks : List Nat) (i j : Nat) (q : Nat), fks[j]? = some q → (am_fv ad mem a i fks)[j]? = some (match q with | 0 => .int (Int32.ofInt (mem a (i + j))) | 1 => .int (Int32.ofInt (mem a (i + j))) | r + 2 => .ref (ad r))
  | [], _, _, _, h => by simp at h
  | f :: r, i, 0, q, h => by
    simp only [List.getElem?_cons_zero, Option.some.injEq] at h
    subst h
    match f with
    | 0 => simp [am_fv]
    | 1 => simp [am_fv]
    | k + 2 => simp [am_fv]
  | f :: r, i, j + 1, q, h => by
    simp only [List.getElem?_cons_succ] at h
    have := am_fv_get ad mem a r (i + 1) j q h
    rw [show i + (j + 1) = i + 1 + j by omega]
    match f with
    | 0 => simpa [am_fv] using this
    | 1 => simpa [am_fv] using this
    | k + 2 => simpa [am_fv] using this
theorem am_fv_len (ad : Nat → Nat) (mem : am_Mem) (a : Nat) : ∀ (fks : List Nat) (i : Nat), (am_fv ad mem a i fks).length = fks.length
  | [], _ => rfl
  | 0 :: r, i => by simp [am_fv, am_fv_len ad mem a r (i + 1)]
  | 1 :: r, i => by simp [am_fv, am_fv_len ad mem a r (i + 1)]
  | (k + 2) :: r, i => by simp [am_fv, am_fv_len ad mem a r (i + 1)]
/-- an int field is written -/
theorem am_fv_set (ad : Nat → Nat) (mem : am_Mem) (a : Nat) (z : Int) : ∀ (fks : List Nat) (i j : Nat), (fks[j]? = some 0 ∨ fks[j]? = some 1) → (am_fv ad mem a i fks).set j (.int (Int32.ofInt z)) = am_fv ad (am_up mem a (i + j) z) a i fks
  | [], _, _, h => by simp at h
  | f :: r, i, 0, h => by
    have hr : ∀ (fks : List Nat) (b : Nat), i < b → am_fv ad (am_up mem a i z) a b fks = am_fv ad mem a b fks := by
      intro fks
      induction fks with
      | nil => intro b _; rfl
      | cons f r ih =>
        intro b hb
        have hne : b ≠ i := by omega
        match f with
        | 0 => simp [am_fv, ih (b + 1) (by omega), am_up, hne]
        | 1 => simp [am_fv, ih (b + 1) (by omega), am_up, hne]
        | k + 2 => simp [am_fv, ih (b + 1) (by omega)]
    simp only [List.getElem?_cons_zero, Option.some.injEq] at h
    rcases h with rfl | rfl
    · simp only [am_fv, List.set_cons_zero, Nat.add_zero, hr r (i + 1) (by omega)]
      simp [am_up]
    · simp only [am_fv, List.set_cons_zero, Nat.add_zero, hr r (i + 1) (by omega)]
      simp [am_up]
  | f :: r, i, j + 1, h => by
    simp only [List.getElem?_cons_succ] at h
    have ih := am_fv_set ad mem a z r (i + 1) j h
    rw [show i + (j + 1) = i + 1 + j by omega]
    have hne : i ≠ i + 1 + j := by omega
    match f with
    | 0 => simp only [am_fv, List.set_cons_succ, ih]; simp [am_up, hne]
    | 1 => simp only [am_fv, List.set_cons_succ, ih]; simp [am_up, hne]
    | k + 2 => simp only [am_fv, List.set_cons_succ, ih]
/-- an int array's place is written -/
theorem am_arr_up (mem : am_Mem) (a i : Nat) (z : Int) : upd (fun j => Int32.ofInt (mem a j)) i (Int32.ofInt z) = fun j => Int32.ofInt (am_up mem a i z a j) := by
  funext j
  by_cases h : j = i <;> simp [upd, am_up, h]
theorem am_arr_cp (mem : am_Mem) (a sp b dp n : Nat) : va_cpy (fun j => Int32.ofInt (mem a j)) (fun j => Int32.ofInt (mem b j)) sp dp n = fun j => Int32.ofInt (am_cp mem a sp b dp n b j) := by
  funext j
  by_cases h : dp ≤ j ∧ j < dp + n <;> simp [va_cpy, am_cp, h]
/-! numbers -/
theorem am_toInt {z : Int} (h : am_inR z) : (Int32.ofInt z).toInt = z := Int32.toInt_ofInt_of_le h.1 (by have := h.2; omega)
theorem am_toIntL {z : Int} (h : am_inL z) : (Int64.ofInt z).toInt = z := Int64.toInt_ofInt_of_le h.1 (by have := h.2; omega)
theorem am_lt {x y : Int} (hx : am_inR x) (hy : am_inR y) : Int32.ofInt x < Int32.ofInt y ↔ x < y := by rw [Int32.lt_iff_toInt_lt, am_toInt hx, am_toInt hy]
theorem am_le {x y : Int} (hx : am_inR x) (hy : am_inR y) : Int32.ofInt x ≤ Int32.ofInt y ↔ x ≤ y := by rw [Int32.le_iff_toInt_le, am_toInt hx, am_toInt hy]
theorem am_eq {x y : Int} (hx : am_inR x) (hy : am_inR y) : Int32.ofInt x = Int32.ofInt y ↔ x = y := by rw [← Int32.toInt_inj, am_toInt hx, am_toInt hy]
theorem am_0 : (0 : Int32) = Int32.ofInt 0 := by decide +kernel
theorem am_in0 : am_inR 0 := by unfold am_inR; omega
theorem am_clamp {z : Int} (h : am_inR z) (h0 : 0 ≤ z) : (Int32.ofInt z).toNatClampNeg = z.toNat := by
  show (Int32.ofInt z).toInt.toNat = z.toNat
  rw [am_toInt h]
theorem am_vp_in {z : Int} {n : Nat} (h : am_inR z) (h0 : 0 ≤ z) (hn : z < n) : vp_in (Int32.ofInt z) n := by
  rw [vp_in_iff, am_toInt h]; exact ⟨h0, hn⟩
theorem am_divR {x y : Int} (hx : am_inR x) (h0 : 0 ≤ x) (hy : 0 < y) : am_inR (x / y) := by
  have h1 : 0 ≤ x / y := Int.ediv_nonneg h0 (by omega)
  have h2 : x / y ≤ x := Int.ediv_le_self y h0
  exact ⟨by omega, by have := hx.2; omega⟩
theorem am_modR {x y : Int} (hy : am_inR y) (h : 0 < y) : am_inR (x % y) := by
  have h1 := Int.emod_nonneg x (show y ≠ 0 by omega)
  have h2 := Int.emod_lt_of_pos x h
  exact ⟨by omega, by have := hy.2; omega⟩
theorem am_div {x y : Int} (hx : am_inR x) (hy : am_inR y) (h0 : 0 ≤ x) (hp : 0 < y) : Int32.ofInt x / Int32.ofInt y = Int32.ofInt (x / y) := by
  apply Int32.toInt_inj.mp
  rw [Int32.toInt_div_of_ne_left _ _ (fun e => ?_), am_toInt hx, am_toInt hy, am_toInt (am_divR hx h0 hp), Int.tdiv_eq_ediv_of_nonneg h0]
  have h1 := congrArg Int32.toInt e
  rw [am_toInt hx] at h1
  rw [h1] at h0
  exact absurd h0 (by decide +kernel)
theorem am_ne0 {y : Int} (hy : am_inR y) (hp : 0 < y) : ¬ Int32.ofInt y = 0 := by
  rw [am_0, am_eq hy am_in0]; omega
theorem am_rem {x y : Int} (hx : am_inR x) (hy : am_inR y) (h0 : 0 ≤ x) (hp : 0 < y) : Int32.ofInt x - Int32.ofInt x / Int32.ofInt y * Int32.ofInt y = Int32.ofInt (x % y) := by
  rw [am_div hx hy h0 hp, ← Int32.ofInt_mul, ← Int32.ofInt_sub]
  congr 1
  have := Int.emod_add_mul_ediv x y
  rw [Int.mul_comm (x / y) y]
  omega
theorem am_rem2 {x y : Int} (hx : am_inR x) (hy : am_inR y) (h0 : x < 0) (hp : 0 < y) : Int32.ofInt x - Int32.ofInt x / Int32.ofInt y * Int32.ofInt y = Int32.ofInt (-((-x) % y)) := by
  have hd : Int32.ofInt x / Int32.ofInt y = Int32.ofInt (-((-x) / y)) := by
    apply Int32.toInt_inj.mp
    have e1 : x.tdiv y = -((-x) / y) := by
      rw [← Int.neg_neg x, Int.neg_tdiv, Int.neg_neg, Int.tdiv_eq_ediv_of_nonneg (by omega)]
    have hb : am_inR (-((-x) / y)) := by
      have h1 : 0 ≤ (-x) / y := Int.ediv_nonneg (by omega) (by omega)
      have h2 : (-x) / y ≤ -x := Int.ediv_le_self y (by omega)
      have := hx.1
      exact ⟨by omega, by omega⟩
    rw [Int32.toInt_div_of_ne_right _ _ (fun e => ?_), am_toInt hx, am_toInt hy, am_toInt hb, e1]
    have h1 := congrArg Int32.toInt e
    rw [am_toInt hy, show (-1 : Int32).toInt = -1 by decide +kernel] at h1
    omega
  rw [hd, ← Int32.ofInt_mul, ← Int32.ofInt_sub]
  congr 1
  have := Int.emod_add_mul_ediv (-x) y
  rw [Int.neg_mul, Int.mul_comm ((-x) / y) y]
  omega
theorem am_divL {x y : Int} (hx : am_inL x) (h0 : 0 ≤ x) (hy : 0 < y) : am_inL (x / y) := by
  have h1 : 0 ≤ x / y := Int.ediv_nonneg h0 (by omega)
  have h2 : x / y ≤ x := Int.ediv_le_self y h0
  exact ⟨by omega, by have := hx.2; omega⟩
theorem am_modL {x y : Int} (hy : am_inL y) (h : 0 < y) : am_inL (x % y) := by
  have h1 := Int.emod_nonneg x (show y ≠ 0 by omega)
  have h2 := Int.emod_lt_of_pos x h
  exact ⟨by omega, by have := hy.2; omega⟩
theorem am_ldiv {x y : Int} (hx : am_inL x) (hy : am_inL y) (h0 : 0 ≤ x) (hp : 0 < y) : Int64.ofInt x / Int64.ofInt y = Int64.ofInt (x / y) := by
  apply Int64.toInt_inj.mp
  rw [Int64.toInt_div_of_ne_left _ _ (fun e => ?_), am_toIntL hx, am_toIntL hy, am_toIntL (am_divL hx h0 hp), Int.tdiv_eq_ediv_of_nonneg h0]
  have h1 := congrArg Int64.toInt e
  rw [am_toIntL hx] at h1
  rw [h1] at h0
  exact absurd h0 (by decide +kernel)
theorem am_lne0 {y : Int} (hy : am_inL y) (hp : 0 < y) : ¬ Int64.ofInt y = 0 := by
  intro e
  have h1 := congrArg Int64.toInt e
  rw [am_toIntL hy, show (0 : Int64).toInt = 0 by decide +kernel] at h1
  omega
theorem am_lrem {x y : Int} (hx : am_inL x) (hy : am_inL y) (h0 : 0 ≤ x) (hp : 0 < y) : Int64.ofInt x - Int64.ofInt x / Int64.ofInt y * Int64.ofInt y = Int64.ofInt (x % y) := by
  rw [am_ldiv hx hy h0 hp, ← Int64.ofInt_mul, ← Int64.ofInt_sub]
  congr 1
  have := Int.emod_add_mul_ediv x y
  rw [Int.mul_comm (x / y) y]
  omega
