/-! the abstract machine is sound: one instruction -/
def am_C (p : Program) (R : Room) (s : State) (m : MethodId) (args : Array Value) (c : Code) (cells slots : Nat) (cc : ByteArray) (own : String) (nL dp : Nat) (g : am_G) (A : Nat → Prop) (rom : Nat → Option (Nat × (Nat → Int))) : Prop :=
  (p.tables.exec = Jvm.exec ∧ c.code = cc ∧ c.maxLocals = nL ∧ s.vm.findClass own = some m.cls ∧ ∀ w ∈ am_gt, w.before args s = true) ∧ (dp ≤ R.frames ∧ 36 * dp ≤ R.locals ∧ cells ≤ R.cells ∧ slots ≤ R.slots) ∧ am_Env g A s s.heap ∧ (∀ k, k < 63 → A (g.2.1 k)) ∧
  (∀ k n f, rom k = some (n, f) → va_X (g.2.1 k) n (am_ofI f) s s.heap ∧ ¬ A (g.2.1 k) ∧ (n : Int) ≤ 2147483647 ∧ ∀ j, am_inR (f j))
def am_J (p : Program) (l : Launch) (e : Env) (R : Room) (s : State) (m : MethodId) (args : Array Value) (below : List Frame) (meth : Method) (c : Code) (cells slots : Nat) (Qf : State → Prop) (nL : Nat) (g : am_G) (A : Nat → Prop) (pc : Nat) (ls : am_Lc) (st : List am_AV) (mem : am_Mem) : Prop :=
  am_okl ls → am_oks st → am_okm mem → ∀ (H : Heap) (locs : List Loc) (L : Array Slot), va_P g.1 am_cls (am_wo g mem) H → va_S A s.heap H locs → lv_has L nL (am_lm g.2.1 ls) → W p l e R s m args below meth c H locs cells slots Qf (F0 m pc L (st.map (am_vl g.2.1)))
def am_Ret (p : Program) (l : Launch) (e : Env) (R : Room) (s : State) (m : MethodId) (args : Array Value) (below : List Frame) (meth : Method) (c : Code) (cells slots : Nat) (Qf : State → Prop) (cc : ByteArray) (g : am_G) (A : Nat → Prop) (rv rb : Bool) (Q : am_Po) : Prop :=
  (∀ (pc : Nat) (z : Int) (mem : am_Mem) (H : Heap) (locs : List Loc) (L : Array Slot), rv = false → decode cc pc = .ok (.ireturn, 1) → Q z mem → (rb = true → z = 0 ∨ z = 1) → am_inR z → am_okm mem → va_P g.1 am_cls (am_wo g mem) H → va_S A s.heap H locs → W p l e R s m args below meth c H locs cells slots Qf (F0 m pc L [.int (Int32.ofInt z)])) ∧
  (∀ (pc : Nat) (mem : am_Mem) (H : Heap) (locs : List Loc) (L : Array Slot), rv = true → decode cc pc = .ok (.return_, 1) → Q 0 mem → am_okm mem → va_P g.1 am_cls (am_wo g mem) H → va_S A s.heap H locs → W p l e R s m args below meth c H locs cells slots Qf (F0 m pc L []))
theorem am_nfw : nativeFrameWords "java/lang/System" "arraycopy" 5 ≤ 17 := by decide +kernel
theorem am_mul_R {x y z : Int} (h : x = y) (hz : am_inR y) : am_inR x := h ▸ hz
section SND
variable {p : Program} {l : Launch} {e : Env} {R : Room} {s : State} {m : MethodId} {args : Array Value} {below : List Frame} {meth : Method} {c : Code} {cells slots : Nat} {Qf : State → Prop} {cc : ByteArray} {own : String} {nL dp : Nat} {g : am_G} {A : Nat → Prop} {rom : Nat → Option (Nat × (Nat → Int))} {rv rb : Bool} {Q : am_Po}
theorem am_J_call (hC : am_C p R s m args c cells slots cc own nL dp g A rom) {y n v pc : Nat} {as r st : List am_AV} {ls : am_Lc} {mem : am_Mem} {pcode pini : Nat} {H : Heap} {locs : List Loc} {L : Array Slot} {Qc : am_Po}
    (hcw : am_cw dp y n v pcode pini = true) (hM : am_Mt l g y as mem Qc) (hoa : am_oks as) (hom : am_okm mem) (hor : am_oks r) (hol : am_okl ls) (hP : va_P g.1 am_cls (am_wo g mem) H) (hS : va_S A s.heap H locs) (hl : lv_has L nL (am_lm g.2.1 ls)) {st0 : List Value}
    (hrun : ∀ (mt : Met l (am_mi y).1 (.code (am_mi y).1 (am_mi y).2.1 (am_mi y).2.2.1 (am_mi y).2.2.2.1 :: am_gt) (am_rmd (am_mi y).2.2.2.2.1) (va_Pc (as.map (am_vl g.2.1)) (am_B g mem)) (am_Qc g (am_isV (am_mi y).2.2.2.1) Qc) 0 0 (am_A g)), va_Run p l e R s m args below meth c H locs cells slots 0 0 (F0 m pc L st0) (r.map (am_vl g.2.1)) (am_Qc g (am_isV (am_mi y).2.2.2.1) Qc (as.map (am_vl g.2.1)).toArray) (am_A g))
    (hk : ∀ z mem', Qc z mem' → am_J p l e R s m args below meth c cells slots Qf nL g A (pc + 3) ls (bif Nat.beq v 0 then r else .inl z :: r) mem') : W p l e R s m args below meth c H locs cells slots Qf (F0 m pc L st0) := by
  refine am_callk (hrun (hM hoa hom)) hS (fun q hq => ?_) (fun z mem' H1 locs1 hq hz hm' hP1 hS1 => ?_)
  · obtain ⟨k, hk, rfl⟩ := hq
    exact hC.2.2.2.1 k hk
  · have hv : am_isV (am_mi y).2.2.2.1 = Nat.beq v 0 := by
      have h1 := of_decide_eq_true (am_and2 hcw).2
      cases hr : (am_mi y).2.2.2.1 with
      | none => rw [hr] at h1; have := h1.mpr rfl; subst this; rfl
      | some t =>
        have : ¬ v = 0 := fun h => by have := h1.mp h; rw [hr] at this; cases this
        simp only [am_isV]
        cases hb : Nat.beq v 0 with
        | false => rfl
        | true => exact absurd (am_beq hb) this
    have := hk z mem' hq hol
    rw [hv]
    cases hb : Nat.beq v 0 with
    | true =>
      rw [hb] at this
      exact this hor hm' H1 locs1 L hP1 hS1 hl
    | false =>
      rw [hb] at this
      exact this (am_oks_cons hz hor) hm' H1 locs1 L hP1 hS1 hl
theorem am_cwB (hC : am_C p R s m args c cells slots cc own nL dp g A rom) {y n v pcode pini idx plink : Nat} (hcw : am_cw dp y n v pcode pini = true) (hl : am_isw plink (.methodLink own idx (am_mi y).1) = true) :
    CallB R s args own idx (am_mi y).1 (am_mi y).2.1 (am_mi y).2.2.1 (am_mi y).2.2.2.1 (.code (am_mi y).1 (am_mi y).2.1 (am_mi y).2.2.1 (am_mi y).2.2.2.1 :: am_gt) (am_rmd (am_mi y).2.2.2.2.1) 0 0 n := by
  obtain ⟨⟨hx, hb, hml, hown, hts⟩, ⟨hfr, hlo, hce, hsl⟩, -⟩ := hC
  obtain ⟨h1, h8⟩ := am_and2 hcw
  obtain ⟨h1, h7⟩ := am_and2 h1
  obtain ⟨h1, h6⟩ := am_and2 h1
  obtain ⟨h1, h5⟩ := am_and2 h1
  obtain ⟨h1, h4⟩ := am_and2 h1
  obtain ⟨h1, h3⟩ := am_and2 h1
  obtain ⟨h1, h2⟩ := am_and2 h1
  have h6 := am_blt h6
  have h7 := am_ble h7
  exact callB_of n hts (am_good_code (ws := []) (am_isw_mem h1)) rfl rfl rfl (hts _ (am_isw_mem h2)) (hts _ (am_isw_mem hl)) ⟨of_decide_eq_true h4, of_decide_eq_true h5, of_decide_eq_true h3⟩ ⟨by show (am_mi y).2.2.2.2.1 + 1 ≤ _; omega, by show 8 + (_ + 11) + 36 * (am_mi y).2.2.2.2.1 ≤ _; omega⟩
theorem am_cwN (hC : am_C p R s m args c cells slots cc own nL dp g A rom) {y n v pcode pini idx : Nat} (hcw : am_cw dp y n v pcode pini = true) (hl : Cond.methodLinkNest own idx (am_mi y).1 "RoofMattress" ∈ am_nt) :
    va_CN R s args own idx (am_mi y).1 "RoofMattress" (am_mi y).2.1 (am_mi y).2.2.1 (am_mi y).2.2.2.1 (.code (am_mi y).1 (am_mi y).2.1 (am_mi y).2.2.1 (am_mi y).2.2.2.1 :: am_gt) (am_rmd (am_mi y).2.2.2.2.1) 0 0 n := by
  obtain ⟨⟨hx, hb, hml, hown, hts⟩, ⟨hfr, hlo, hce, hsl⟩, hEnv, -⟩ := hC
  obtain ⟨h1, h8⟩ := am_and2 hcw
  obtain ⟨h1, h7⟩ := am_and2 h1
  obtain ⟨h1, h6⟩ := am_and2 h1
  obtain ⟨h1, h5⟩ := am_and2 h1
  obtain ⟨h1, h4⟩ := am_and2 h1
  obtain ⟨h1, h3⟩ := am_and2 h1
  obtain ⟨h1, h2⟩ := am_and2 h1
  have h6 := am_blt h6
  have h7 := am_ble h7
  exact va_cnB n hts (am_good_code (ws := []) (am_isw_mem h1)) rfl rfl rfl (hEnv.2.1 _ hl) (hts _ (am_isw_mem h2)) ⟨of_decide_eq_true h4, of_decide_eq_true h5, of_decide_eq_true h3⟩ ⟨by show (am_mi y).2.2.2.2.1 + 1 ≤ _; omega, by show 8 + (_ + 11) + 36 * (am_mi y).2.2.2.2.1 ≤ _; omega⟩
theorem am_preS (hC : am_C p R s m args c cells slots cc own nL dp g A rom) {mem : am_Mem} {H : Heap} {locs : List Loc} (hP : va_P g.1 am_cls (am_wo g mem) H) (hS : va_S A s.heap H locs) (as : List Value) : PreS s H (va_Pc as (am_B g mem)) as := by
  refine ⟨am_B.blind, fun U hU hW => ⟨rfl, by rw [hU]; exact hP, hC.2.2.1.at hS (fun q hq => ?_) hU hW⟩⟩
  obtain ⟨k, hk, rfl⟩ := hq
  exact hC.2.2.2.1 k hk
end SND
