/-! constructors: straight rows of fields, each an int, a new array or a new object -/
abbrev cn_G : Type := va_G × ClassId × ClassId
abbrev cn_ty (d : cn_G) : List (ClassId × FieldType) := [(d.2.1, .int), (d.2.2, .boolean)]
def cn_C (p : Program) (s : State) (m : MethodId) (args : Array Value) (c : Code) (cc : ByteArray) (own : String) (nL : Nat) (d : cn_G) (A : Nat → Prop) : Prop :=
  (p.tables.exec = Jvm.exec ∧ c.code = cc ∧ c.maxLocals = nL ∧ s.vm.findClass own = some m.cls ∧ ∀ w ∈ am_gt, w.before args s = true) ∧ va_K d.1 am_cls (cn_ty d) s ∧ (∀ w ∈ am_nt, va_Nw w s) ∧ (∀ q, s.heap.size ≤ q → A q)
def cn_dv : FieldType → Value
  | .int => .int (Int32.ofInt 0)
  | .boolean => .int (Int32.ofInt 0)
  | _ => .null
def cn_isr : FieldType → Bool
  | .object _ => true
  | .array _ => true
  | _ => false
def cn_isi : FieldType → Bool
  | .int => true
  | .boolean => true
  | t => cn_isr t
theorem cn_dv_ok {ty : FieldType} (h : cn_isi ty = true) : defaultValue ty = cn_dv ty := by
  cases ty <;> first | rfl | (cases h; done) | (show Value.int 0 = Value.int (Int32.ofInt 0); rw [← am_0])
theorem cn_isr_ok {ty : FieldType} (h : cn_isr ty = true) (q : Nat) : narrow ty (.ref q) = .ref q ∧ fits ty (.ref q) = true := by
  cases ty <;> first | exact ⟨rfl, rfl⟩ | (cases h; done)
def cn_fs (ci : Nat) : List Value := match am_cls[ci]? with
  | some q => (List.range q.2.2).map (fun j => cn_dv (am_ty ci j))
  | none => []
def cn_tyok (ci : Nat) : Bool := match am_cls[ci]? with
  | some q => (List.range q.2.2).all (fun j => cn_isi (am_ty ci j))
  | none => false
theorem cn_fs_ok {ci : Nat} {q : vw_C} (hc : am_cls[ci]? = some q) (ht : cn_tyok ci = true) : ∀ j, j < q.2.2 → defaultValue (am_ty ci j) = vp_V (cn_fs ci) j := by
  intro j hj
  unfold cn_tyok at ht
  rw [hc] at ht
  have h1 := List.all_eq_true.mp ht j (List.mem_range.mpr hj)
  rw [cn_dv_ok h1]
  unfold vp_V cn_fs
  rw [hc]
  simp [List.getD_eq_getElem?_getD, hj]
def cn_fw (own : String) (ci k idx pl : Nat) : Bool := match am_cls[ci]? with
  | some q => decide (q.1 = own) && Nat.blt k q.2.2 && am_isw pl (.fieldLink own idx (q.2.1 k).1 (q.2.1 k).2.1 (q.2.1 k).2.2.1) && decide ((q.2.1 k).1 = own)
  | none => false
/-- cells of a callee beside the rest -/
theorem cn_join {A : Nat → Prop} {D : va_G} {cl : List vw_C} {w0 w1 : va_W} {q : Nat} {e : va_E} {H H1 : Heap} (hP : va_P D cl (w0 ++ [(q, e)]) H) (hD : va_D A (w0 ++ [(q, e)])) (hk : ∀ x : Nat, x < H.size → ¬ va_A [(q, e)] H.size x → H1[x]? = H[x]?) (hF : ∀ x, va_A [(q, e)] H.size x → A x) (hP1 : va_P D cl w1 H1) (hD1 : va_D (va_A [(q, e)] H.size) w1) : va_P D cl (w0 ++ w1) H1 ∧ va_D A (w0 ++ w1) := by
  have hw0 : ∀ (k : Nat) (x : Nat × va_E), w0[k]? = some x → (w0 ++ [(q, e)])[k]? = some x := fun k x h => by
    rw [List.getElem?_append_left (List.getElem?_eq_some_iff.mp h).1]; exact h
  have hq : (w0 ++ [(q, e)])[w0.length]? = some (q, e) := by simp
  have ap : ∀ (k : Nat) (x : Nat × va_E), w0[k]? = some x → x.1 < H.size ∧ ¬ va_A [(q, e)] H.size x.1 := fun k x h => by
    have hl := (hP k x (hw0 k x h)).lt
    refine ⟨hl, fun hz => ?_⟩
    rcases hz with ⟨j, e', hj⟩ | hz
    · have hx : x.1 = q := by
        cases j with
        | zero => simp at hj; exact hj.1.symm
        | succ j => simp at hj
      have h1 := hD.1 k w0.length x (q, e) (hw0 k x h) hq hx
      have h2 := (List.getElem?_eq_some_iff.mp h).1
      omega
    · omega
  exact ⟨va_P.app (fun k x h => (hP k x (hw0 k x h)).kept (hk x.1 (ap k x h).1 (ap k x h).2)) hP1, va_D.app ⟨fun i j x y hx hy hxy => hD.1 i j x y (hw0 i x hx) (hw0 j y hy) hxy, fun k x h => hD.2 k x (hw0 k x h)⟩ (hD1.weaken (fun k x _ h => hF x.1 h)) (fun i j x y hx hy hxy => (ap i x hx).2 (by rw [hxy]; exact hD1.2 j y hy))⟩
/-- a constructor's start and end -/
def cn_B (d : cn_G) (ci q sz : Nat) (U : State) : Prop := U.heap.size = sz ∧ va_P d.1 am_cls [(q, .inr (ci, cn_fs ci))] U.heap ∧ va_K d.1 am_cls (cn_ty d) U ∧ ∀ w ∈ am_nt, va_Nw w U
abbrev cn_A (ci q sz : Nat) : Nat → Prop := va_A [(q, .inr (ci, cn_fs ci))] sz
abbrev cn_Q (d : cn_G) (ci q sz : Nat) (out : cn_G → Nat → (Nat → Nat) → va_W) : Array Value → State → Outcome → State → Prop := va_Qv (fun _ : Nat → Nat => True) (fun ad t => va_P d.1 am_cls (out d q ad) t.heap ∧ va_D (cn_A ci q sz) (out d q ad)) (cn_A ci q sz)
abbrev cn_R (dep mc ms : Nat) : Room := { frames := dep, cells := mc, slots := ms, locals := 36 * dep }
def cn_Met (l : Launch) (d : cn_G) (y : MethodName) (cc : ByteArray) (dep mc ms ci : Nat) (out : cn_G → Nat → (Nat → Nat) → va_W) : Prop := ∀ q sz : Nat, Met l y (.code y cc 1 none :: am_gt) (cn_R dep mc ms) (va_Pc [.ref q] (cn_B d ci q sz)) (cn_Q d ci q sz out) mc ms (cn_A ci q sz)
theorem cn_nest {s U : State} (h : ∀ w ∈ am_nt, va_Nw w s) (hW : s.WarmedH U.vm) : ∀ w ∈ am_nt, va_Nw w U := fun w hw => by
  have hn := (List.mem_filter.mp hw).2
  cases w with
  | methodLinkNest c i y hst => exact va_Nw.warmM hW (h _ hw)
  | _ => cases hn
theorem cn_blind {d : cn_G} {ci q sz : Nat} : FrameBlind (va_Pc [.ref q] (cn_B d ci q sz)) := by
  intro a U gf mk h
  obtain ⟨h1, h2, h3, h4, h5⟩ := h
  refine ⟨h1, h2, h3, va_K.moved (u := U) (U := U.calling gf mk a) (Vm.Alike.refl U.vm) h4, fun w hw => ?_⟩
  have hn := (List.mem_filter.mp hw).2
  cases w with
  | methodLinkNest c i y hst => exact va_Nw.same (u := U) (U := U.calling gf mk a) rfl rfl (h5 _ hw)
  | _ => cases hn
section CTR
variable {p : Program} {l : Launch} {e : Env} {R : Room} {s : State} {m : MethodId} {args : Array Value} {below : List Frame} {meth : Method} {c : Code} {H : Heap} {locs : List Loc} {cells slots : Nat} {Qf : State → Prop}
variable {pc : Nat} {L : Array Slot} {rest : List Value} {A : Nat → Prop} {cc : ByteArray} {own : String} {nL : Nat} {d : cn_G}
theorem cn_put (hC : cn_C p s m args c cc own nL d A) (hin : meth.name = "<init>") {h0 ci k idx pl : Nat} {fs : List Value} {wr : va_W} {v : Value} (hP : va_P d.1 am_cls ((h0, .inr (ci, fs)) :: wr) H) (hD : va_D A ((h0, .inr (ci, fs)) :: wr)) (hS : va_S A s.heap H locs)
    (hw : cn_fw own ci k idx pl = true) (hn : narrow (am_ty ci k) v = v) (hfit : fits (am_ty ci k) v = true) (hl : k < fs.length) (hdg : decode cc pc = .ok (.putfield idx, 3))
    (kk : ∀ (H1 : Heap) (locs1 : List Loc), va_P d.1 am_cls ((h0, .inr (ci, fs.set k v)) :: wr) H1 → va_D A ((h0, .inr (ci, fs.set k v)) :: wr) → va_S A s.heap H1 locs1 → W p l e R s m args below meth c H1 locs1 cells slots Qf (F0 m (pc + 3) L rest)) : W p l e R s m args below meth c H locs cells slots Qf (F0 m pc L (v :: .ref h0 :: rest)) := by
  obtain ⟨⟨hx, hb, hml, hown, hts⟩, hK, hN, hA⟩ := hC
  unfold cn_fw at hw
  cases hc : am_cls[ci]? with
  | none => rw [hc] at hw; cases hw
  | some q =>
    rw [hc] at hw
    obtain ⟨C, T, N⟩ := q
    obtain ⟨hw, hw4⟩ := am_and2 hw
    obtain ⟨hw, hw3⟩ := am_and2 hw
    obtain ⟨hw1, hw2⟩ := am_and2 hw
    have hw1 : C = own := of_decide_eq_true hw1
    subst hw1
    have hk : k < N := am_blt hw2
    have hlink := hts _ (am_isw_mem hw3)
    have hdec : (T k).1 = C := of_decide_eq_true hw4
    have hd := am_cls_ty ci _ hc k hk
    cases hf : (T k).2.2.2 with
    | true => exact va_putF hx hb hts (am_lays ci _ hc) (am_ty ci) (am_cls_ty ci _ hc) (am_cls_nm ci _ hc) hown hK hP hD hS 0 rfl hc k hk hlink (fun _ h => h) hf hin hdec hd hn hfit hl hdg kk
    | false => exact va_put hx hb hts (am_lays ci _ hc) (am_ty ci) (am_cls_ty ci _ hc) (am_cls_nm ci _ hc) hown hK hP hD hS 0 rfl hc k hk hlink (fun _ h => h) hf hd hn hfit hl hdg kk
def cn_oki (cc : ByteArray) (own : String) (ci pc k idx pl : Nat) (n : Int) : Bool := decide (decode cc pc = .ok (.aload_n 0, 1)) && decide (decode cc (pc + 1) = .ok (.iconst n, 1)) && decide (decode cc (pc + 2) = .ok (.putfield idx, 3)) && cn_fw own ci k idx pl && decide (am_ty ci k = .int ∨ (am_ty ci k = .boolean ∧ n = 0))
theorem cn_int (pc ci k idx pl : Nat) (n : Int) (hC : cn_C p s m args c cc own nL d A) (hin : meth.name = "<init>") {h0 : Nat} (hl : lv_has L nL [(0, .ref h0)]) (hok : cn_oki cc own ci pc k idx pl n = true) {fs : List Value} {wr : va_W} (hP : va_P d.1 am_cls ((h0, .inr (ci, fs)) :: wr) H) (hD : va_D A ((h0, .inr (ci, fs)) :: wr)) (hS : va_S A s.heap H locs) (hf : k < fs.length)
    (kk : ∀ (H1 : Heap) (locs1 : List Loc), va_P d.1 am_cls ((h0, .inr (ci, fs.set k (.int (Int32.ofInt n)))) :: wr) H1 → va_D A ((h0, .inr (ci, fs.set k (.int (Int32.ofInt n)))) :: wr) → va_S A s.heap H1 locs1 → W p l e R s m args below meth c H1 locs1 cells slots Qf (F0 m (pc + 5) L rest)) : W p l e R s m args below meth c H locs cells slots Qf (F0 m pc L rest) := by
  obtain ⟨hok, h5⟩ := am_and2 hok
  obtain ⟨hok, h4⟩ := am_and2 hok
  obtain ⟨hok, h3⟩ := am_and2 hok
  obtain ⟨h1, h2⟩ := am_and2 hok
  have h1 := of_decide_eq_true h1
  have h2 := of_decide_eq_true h2
  have h3 := of_decide_eq_true h3
  have h5 := of_decide_eq_true h5
  obtain ⟨hx, hb, -⟩ := hC.1
  refine lv_aload_n hx hb h1 rfl (lv_at hl 0 rfl) ?_
  refine lv_iconst (v := Int32.ofInt n) hx hb h2 rfl ?_
  refine cn_put hC hin hP hD hS h4 ?_ ?_ hf h3 kk
  · rcases h5 with h | ⟨h, rfl⟩
    · rw [h]; rfl
    · rw [h]; decide +kernel
  · rcases h5 with h | ⟨h, rfl⟩
    · rw [h]; rfl
    · rw [h]; rfl
def cn_okp (cc : ByteArray) (pc j n : Nat) : Bool := (Nat.beq j 1 && decide (decode cc pc = .ok (.iconst n, 1))) || (Nat.beq j 2 && decide (decode cc pc = .ok (.bipush n, 2)) && decide ((Int8.ofInt n).toInt32 = Int32.ofInt n)) || (Nat.beq j 3 && decide (decode cc pc = .ok (.sipush n, 3)) && decide ((Int16.ofInt n).toInt32 = Int32.ofInt n))
theorem cn_push (hx : p.tables.exec = Jvm.exec) (hb : c.code = cc) {j n : Nat} (h : cn_okp cc pc j n = true) (kk : W p l e R s m args below meth c H locs cells slots Qf (F0 m (pc + j) L (.int (Int32.ofInt n) :: rest))) : W p l e R s m args below meth c H locs cells slots Qf (F0 m pc L rest) := by
  unfold cn_okp at h
  rcases Bool.or_eq_true _ _ ▸ h with h | h
  · rcases Bool.or_eq_true _ _ ▸ h with h | h
    · obtain ⟨h1, h2⟩ := am_and2 h
      have h1 := am_beq h1
      subst h1
      exact lv_iconst hx hb (of_decide_eq_true h2) rfl kk
    · obtain ⟨h, h3⟩ := am_and2 h
      obtain ⟨h1, h2⟩ := am_and2 h
      have h1 := am_beq h1
      subst h1
      exact lv_bipush hx hb (of_decide_eq_true h2) (of_decide_eq_true h3) kk
  · obtain ⟨h, h3⟩ := am_and2 h
    obtain ⟨h1, h2⟩ := am_and2 h
    have h1 := am_beq h1
    subst h1
    exact lv_sipush hx hb (of_decide_eq_true h2) (of_decide_eq_true h3) kk
abbrev cn_at (z : Bool) : ArrayType := bif z then .boolean else .int
abbrev cn_ar (d : cn_G) (z : Bool) (n : Nat) : va_E := .inl (bif z then d.2.2 else d.2.1, n, .inl (fun _ => Int32.ofInt 0))
def cn_oka (cc : ByteArray) (own : String) (ci pc j k idx pl : Nat) (z : Bool) (n pa : Nat) : Bool := decide (decode cc pc = .ok (.aload_n 0, 1)) && cn_okp cc (pc + 1) j n && decide (decode cc (pc + 1 + j) = .ok (.newarray (cn_at z), 2)) && decide (decode cc (pc + 1 + j + 2) = .ok (.putfield idx, 3)) && cn_fw own ci k idx pl && cn_isr (am_ty ci k) && Nat.ble n 1000 && am_isw pa (.arrayClass (newarray.typeOf (cn_at z)))
theorem cn_arr (pc j ci k idx pl : Nat) (z : Bool) (n pa : Nat) (hC : cn_C p s m args c cc own nL d A) (hin : meth.name = "<init>") {h0 : Nat} (hl : lv_has L nL [(0, .ref h0)]) (hok : cn_oka cc own ci pc j k idx pl z n pa = true) {fs : List Value} {wr : va_W} (hP : va_P d.1 am_cls ((h0, .inr (ci, fs)) :: wr) H) (hD : va_D A ((h0, .inr (ci, fs)) :: wr)) (hS : va_S A s.heap H locs) (hf : k < fs.length) (hcells : cells + 1 ≤ R.cells) (hslots : slots + n ≤ R.slots)
    (kk : ∀ (q : Nat) (H1 : Heap) (locs1 : List Loc), va_P d.1 am_cls ((h0, .inr (ci, fs.set k (.ref q))) :: (wr ++ [(q, cn_ar d z n)])) H1 → va_D A ((h0, .inr (ci, fs.set k (.ref q))) :: (wr ++ [(q, cn_ar d z n)])) → va_S A s.heap H1 locs1 → W p l e R s m args below meth c H1 locs1 (cells + 1) (slots + n) Qf (F0 m (pc + 1 + j + 2 + 3) L rest)) : W p l e R s m args below meth c H locs cells slots Qf (F0 m pc L rest) := by
  obtain ⟨hok, h8⟩ := am_and2 hok
  obtain ⟨hok, h7⟩ := am_and2 hok
  obtain ⟨hok, h6⟩ := am_and2 hok
  obtain ⟨hok, h5⟩ := am_and2 hok
  obtain ⟨hok, h4⟩ := am_and2 hok
  obtain ⟨hok, h3⟩ := am_and2 hok
  obtain ⟨h1, h2⟩ := am_and2 hok
  have h7 := am_ble h7
  have hC0 := hC
  obtain ⟨⟨hx, hb, hml, hown, hts⟩, hK, hN, hA⟩ := hC0
  have hnR : am_inR (n : Int) := ⟨by omega, by omega⟩
  refine lv_aload_n hx hb (of_decide_eq_true h1) rfl (lv_at hl 0 rfl) ?_
  refine cn_push hx hb h2 ?_
  have key : ∀ (ty : FieldType) (cK : ClassId) (t0 : Nat), newarray.typeOf (cn_at z) = ty → (cn_ty d)[t0]? = some (cK, ty) → (ty = .int ∨ ty = .boolean) → cK = (bif z then d.2.2 else d.2.1) → W p l e R s m args below meth c H locs cells slots Qf (F0 m (pc + 1 + j) L (.int (Int32.ofInt n) :: .ref h0 :: rest)) := by
    intro ty cK t0 hty ht htt hcK
    refine va_newa (atype := cn_at z) (a0 := (n, .inl (fun _ => Int32.ofInt 0))) hx hb (hts _ (am_isw_mem h8)) hty hK hP hD hS hA (fun cA => ?_) ?_ (am_clamp hnR (by omega)) ?_ hcells (by simpa using hslots) (of_decide_eq_true h3) (fun q cA H1 hK1 hP1 hD1 hS1 => ?_)
    · rw [vp_cell_i]
      rcases htt with rfl | rfl
      · show arrV cA n (fun _ => Value.int (Int32.ofInt 0)) = arrV cA n (fun _ => Value.int 0); rw [← am_0]
      · show arrV cA n (fun _ => Value.int (Int32.ofInt 0)) = arrV cA n (fun _ => Value.int 0); rw [← am_0]
    · rw [am_0, am_lt hnR am_in0]; omega
    · simp only [Int.toNat_natCast]
      rcases htt with rfl | rfl
      · show n * 4 ≤ _; omega
      · show n * 1 ≤ _; omega
    · have hcA : cA = cK := by
        have e1 := (hK1.2 (cn_ty d).length (cA, ty) (by simp)).2
        have e2 := (hK.2 t0 (cK, ty) ht).2
        rcases htt with rfl | rfl
        · exact Option.some.inj (e1.symm.trans e2)
        · exact Option.some.inj (e1.symm.trans e2)
      subst hcA
      subst hcK
      simp only [Int.toNat_natCast]
      obtain ⟨n1, n2⟩ := cn_isr_ok h6 q
      exact cn_put hC hin (wr := wr ++ [(q, cn_ar d z n)]) hP1 hD1 hS1 h5 n1 n2 hf (of_decide_eq_true h4) (fun H2 locs2 hP2 hD2 hS2 => kk q H2 locs2 hP2 hD2 hS2)
  cases z with
  | false => exact key .int d.2.1 0 rfl rfl (Or.inl rfl) rfl
  | true => exact key .boolean d.2.2 1 rfl rfl (Or.inr rfl) rfl
def cn_okm (cc : ByteArray) (own : String) (pc ci N : Nat) (y : MethodName) (yc : ByteArray) (ix im p1 p2 p3 p4 p5 p6 : Nat) (nest : Bool) : Bool := decide (decode cc pc = .ok (.new ix, 3)) && decide (decode cc (pc + 3) = .ok (.dup, 1)) && decide (decode cc (pc + 3 + 1) = .ok (.invokespecial im, 3)) && (match am_cls[ci]? with
  | some q => am_isw p1 (.classLink own ix q.1) && am_isw p2 (.instantiable q.1 q.2.2) && am_isw p3 (.initialized q.1) && decide (y.cls = q.1) && Nat.beq N q.2.2
  | none => false) && am_isw p4 (.instanceMethod y) && am_isw p5 (.code y yc 1 none) && (bif nest then decide (lw_tbl[p6]? = some (.methodLinkNest own im y "RoofMattress")) else am_isw p6 (.methodLink own im y)) && decide (y.name = "<init>" ∧ y.cls ≠ "java/lang/invoke/MethodHandle" ∧ y.cls ≠ "java/lang/invoke/VarHandle" ∧ (parseMethodDescriptor y.desc).map (fun d => d.parameters.length) = some 0) && cn_tyok ci
set_option maxHeartbeats 4000000 in
/-- a new object, its constructor run -/
theorem cn_make (pc ci N : Nat) {y : MethodName} {yc : ByteArray} (ix im p1 p2 p3 p4 p5 p6 : Nat) (nest : Bool) {dep mc ms : Nat} {out : cn_G → Nat → (Nat → Nat) → va_W} (hC : cn_C p s m args c cc own nL d A) (hM : cn_Met l d y yc dep mc ms ci out) (hL : L.size = nL) (hok : cn_okm cc own pc ci N y yc ix im p1 p2 p3 p4 p5 p6 nest = true) {w0 : va_W} (hP : va_P d.1 am_cls w0 H) (hD : va_D A w0) (hS : va_S A s.heap H locs)
    (hrest : ∀ q : Nat, ((Value.ref q :: rest).map fun v => v.category).sum ≤ 8) (hcells : cells + 1 + mc ≤ R.cells) (hslots : slots + N + ms ≤ R.slots) (hfr : dep + 1 ≤ R.frames) (hlo : 36 * dep + 20 ≤ R.locals)
    (kk : ∀ (q : Nat) (ad : Nat → Nat) (H1 : Heap) (locs1 : List Loc), va_P d.1 am_cls (w0 ++ out d q ad) H1 → va_D A (w0 ++ out d q ad) → va_S A s.heap H1 locs1 → W p l e R s m args below meth c H1 locs1 (cells + 1 + mc) (slots + N + ms) Qf (F0 m (pc + 3 + 1 + 3) L (.ref q :: rest))) : W p l e R s m args below meth c H locs cells slots Qf (F0 m pc L rest) := by
  obtain ⟨hok, h9⟩ := am_and2 hok
  obtain ⟨hok, h8⟩ := am_and2 hok
  obtain ⟨hok, h7⟩ := am_and2 hok
  obtain ⟨hok, h6⟩ := am_and2 hok
  obtain ⟨hok, h5⟩ := am_and2 hok
  obtain ⟨hok, h4⟩ := am_and2 hok
  obtain ⟨hok, h3⟩ := am_and2 hok
  obtain ⟨h1, h2⟩ := am_and2 hok
  have h1 := of_decide_eq_true h1
  have h2 := of_decide_eq_true h2
  have h3 := of_decide_eq_true h3
  obtain ⟨hy1, hy2, hy3, hy4⟩ := of_decide_eq_true h8
  have hC0 := hC
  obtain ⟨⟨hx, hb, hml, hown, hts⟩, hK, hN, hA⟩ := hC0
  cases hc : am_cls[ci]? with
  | none => rw [hc] at h4; cases h4
  | some q =>
    rw [hc] at h4
    obtain ⟨C, T, N'⟩ := q
    obtain ⟨h4, g5⟩ := am_and2 h4
    obtain ⟨h4, g4⟩ := am_and2 h4
    obtain ⟨h4, g3⟩ := am_and2 h4
    obtain ⟨g1, g2⟩ := am_and2 h4
    have g5 : N = N' := am_beq g5
    subst g5
    have g4 : y.cls = C := of_decide_eq_true g4
    subst g4
    refine va_new (ci := ci) (fs := cn_fs ci) hx hb hts (am_lays ci _ hc) (am_ty ci) (am_cls_ty ci _ hc) hown (hts _ (am_isw_mem g1)) (hts _ (am_isw_mem g2)) (hts _ (am_isw_mem g3)) hK hP hD hS hA hc (cn_fs_ok hc h9) (by omega) (by show slots + N ≤ R.slots; omega) h1 (fun q H1 hP1 hD1 hS1 => ?_)
    refine lv_dup hx hb h2 rfl ?_
    have hPc : va_P d.1 am_cls [(q, .inr (ci, cn_fs ci))] H1 := fun k x hk => by
      have : (w0 ++ [(q, .inr (ci, cn_fs ci))])[w0.length + k]? = some x := by
        rw [List.getElem?_append_right (by omega), Nat.add_sub_cancel_left]; exact hk
      exact hP1 _ x this
    have hFc : ∀ x, cn_A ci q H1.size x → A x := va_free (wc := [(q, .inr (ci, cn_fs ci))]) hD1 hS1 hA [w0.length] (by simp)
    have hpre : PreS s H1 (va_Pc [.ref q] (cn_B d ci q H1.size)) [.ref q] := ⟨cn_blind, fun U hU hW => ⟨rfl, by rw [hU], by rw [hU]; exact hPc, va_K.moved hW.alike hK, cn_nest hN hW⟩⟩
    have hrun : va_Run p l e R s m args below meth c H1 locs (cells + 1) (slots + N) mc ms (F0 m (pc + 3 + 1) L (.ref q :: .ref q :: rest)) (.ref q :: rest) (cn_Q d ci q H1.size out [Value.ref q].toArray) (cn_A ci q H1.size) := by
      cases nest with
      | true =>
        have hmem : Cond.methodLinkNest own im y "RoofMattress" ∈ am_nt := List.mem_filter.mpr ⟨List.mem_of_getElem? (of_decide_eq_true h7), rfl⟩
        exact va_runIN (As := []) (rest := .ref q :: rest) ⟨hx, hb, hml, hown, hts⟩ (hM q H1.size) ⟨va_cnB 0 hts (am_good_code (ws := []) (am_isw_mem h6)) rfl rfl rfl (hN _ hmem) (hts _ (am_isw_mem g3)) ⟨hy2, hy3, hy4⟩ ⟨hfr, by show 8 + (1 + 11) + 36 * dep ≤ R.locals; omega⟩, hy1, hts _ (am_isw_mem h5)⟩ hpre rfl rfl hL rfl (lv_room (hrest q)) h3 ⟨hcells, hslots⟩
      | false =>
        exact va_runI (As := []) (rest := .ref q :: rest) ⟨hx, hb, hml, hown, hts⟩ (hM q H1.size) (cwI 0 hts (am_good_code (ws := []) (am_isw_mem h6)) rfl rfl rfl (hts _ (am_isw_mem g3)) (hts _ (am_isw_mem h7)) (hts _ (am_isw_mem h5)) hy1 ⟨hy2, hy3, hy4⟩ ⟨hfr, by show 8 + (1 + 11) + 36 * dep ≤ R.locals; omega⟩) hpre rfl rfl hL rfl (lv_room (hrest q)) h3 ⟨hcells, hslots⟩
    refine va_callv hrun hS1 (fun x _ h => hFc x h) hFc (fun u t H2 locs2 ht hvm hw hB hz1 hk1 hS2 => ?_)
    obtain ⟨hP2, hD2⟩ := hB
    rw [ht] at hP2
    obtain ⟨hP3, hD3⟩ := cn_join hP1 hD1 hk1 hFc hP2 hD2
    exact kk q u H2 locs2 hP3 hD3 hS2
def cn_oko (cc : ByteArray) (own : String) (ci pc k idx pl : Nat) : Bool := decide (decode cc pc = .ok (.aload_n 0, 1)) && decide (decode cc (pc + 1 + 3 + 1 + 3) = .ok (.putfield idx, 3)) && cn_fw own ci k idx pl && cn_isr (am_ty ci k)
theorem cn_obj (pc ci k idx pl ci' N : Nat) {y : MethodName} {yc : ByteArray} (ix im p1 p2 p3 p4 p5 p6 : Nat) {dep mc ms : Nat} {out : cn_G → Nat → (Nat → Nat) → va_W} (hC : cn_C p s m args c cc own nL d A) (hin : meth.name = "<init>") {h0 : Nat} (hl : lv_has L nL [(0, .ref h0)]) (hM : cn_Met l d y yc dep mc ms ci' out) (hok1 : cn_oko cc own ci pc k idx pl = true) (hok : cn_okm cc own (pc + 1) ci' N y yc ix im p1 p2 p3 p4 p5 p6 true = true) {fs : List Value} {wr : va_W} (hP : va_P d.1 am_cls ((h0, .inr (ci, fs)) :: wr) H) (hD : va_D A ((h0, .inr (ci, fs)) :: wr)) (hS : va_S A s.heap H locs) (hf : k < fs.length) (hcells : cells + 1 + mc ≤ R.cells) (hslots : slots + N + ms ≤ R.slots) (hfr : dep + 1 ≤ R.frames) (hlo : 36 * dep + 20 ≤ R.locals)
    (kk : ∀ (q : Nat) (ad : Nat → Nat) (H1 : Heap) (locs1 : List Loc), va_P d.1 am_cls ((h0, .inr (ci, fs.set k (.ref q))) :: (wr ++ out d q ad)) H1 → va_D A ((h0, .inr (ci, fs.set k (.ref q))) :: (wr ++ out d q ad)) → va_S A s.heap H1 locs1 → W p l e R s m args below meth c H1 locs1 (cells + 1 + mc) (slots + N + ms) Qf (F0 m (pc + 1 + 3 + 1 + 3 + 3) L [])) : W p l e R s m args below meth c H locs cells slots Qf (F0 m pc L []) := by
  obtain ⟨hok1, h4⟩ := am_and2 hok1
  obtain ⟨hok1, h3⟩ := am_and2 hok1
  obtain ⟨h1, h2⟩ := am_and2 hok1
  obtain ⟨hx, hb, -⟩ := hC.1
  refine lv_aload_n hx hb (of_decide_eq_true h1) rfl (lv_at hl 0 rfl) ?_
  refine cn_make (pc + 1) ci' N ix im p1 p2 p3 p4 p5 p6 true hC hM hl.1 hok hP hD hS (fun q => Nat.le_of_ble_eq_true rfl) hcells hslots hfr hlo (fun q ad H1 locs1 hP1 hD1 hS1 => ?_)
  obtain ⟨n1, n2⟩ := cn_isr_ok h4 q
  exact cn_put hC hin (wr := wr ++ out d q ad) hP1 hD1 hS1 h3 n1 n2 hf (of_decide_eq_true h2) (fun H2 locs2 hP2 hD2 hS2 => kk q ad H2 locs2 hP2 hD2 hS2)
/-- a constructor's return -/
theorem cn_ret (pc : Nat) {ci h0 mc ms : Nat} {out : cn_G → Nat → (Nat → Nat) → va_W} (hx : p.tables.exec = Jvm.exec) (hb : c.code = cc) (hr : meth.sig.returnType = none) (hlocks : meth.locks = false) (hdg : decode cc pc = .ok (.return_, 1)) (ad : Nat → Nat) (hP : va_P d.1 am_cls (out d h0 ad) H) (hD : va_D (cn_A ci h0 s.heap.size) (out d h0 ad)) (hS : va_S (cn_A ci h0 s.heap.size) s.heap H locs) (h1 : cells ≤ mc) (h2 : slots ≤ ms) :
    W p l e R s m args below meth c H locs cells slots (MQ below (cn_Q d ci h0 s.heap.size out) args s mc ms (cn_A ci h0 s.heap.size)) (F0 m pc L []) := by
  refine W.widen (k := mc) (n := ms) h1 h2 ?_
  exact W.vret hx hb hr (fun t ht hW => ⟨⟨ad, rfl, trivial, by rw [ht]; exact hP, hD⟩, hS.F ht⟩) hS.2.2 hdg
end CTR
def cn_okb (cc : ByteArray) (y : MethodName) (own : String) (io pl p2 p3 dep : Nat) : Bool := plainFor y && decide (y.cls = own ∧ y.name = "<init>") && decide (decode cc 0 = .ok (.aload_n 0, 1)) && decide (decode cc 1 = .ok (.invokespecial io, 3)) && am_isw pl (.methodLink own io objectInit) && am_isw p2 (.instanceMethod objectInit) && am_isw p3 (.code objectInit ⟨#[0xb1]⟩ 1 none) && Nat.ble 1 dep
set_option maxHeartbeats 4000000 in
/-- a constructor out of what follows Object's -/
theorem cn_begin {l : Launch} {d : cn_G} {y : MethodName} {cc : ByteArray} {own : String} {io pl p2 p3 dep mc ms ci : Nat} {out : cn_G → Nat → (Nat → Nat) → va_W} (hok : cn_okb cc y own io pl p2 p3 dep = true)
    (body : ∀ (p : Program) (e : Env) (s : State) (m : MethodId) (args : Array Value) (below : List Frame) (meth : Method) (c : Code) (L : Array Slot) (h0 : Nat), cn_C p s m args c cc own 1 d (cn_A ci h0 s.heap.size) → meth.name = "<init>" → meth.sig.returnType = none → meth.locks = false → lv_has L 1 [(0, .ref h0)] → va_P d.1 am_cls [(h0, .inr (ci, cn_fs ci))] s.heap → va_D (cn_A ci h0 s.heap.size) [(h0, .inr (ci, cn_fs ci))] → va_S (cn_A ci h0 s.heap.size) s.heap s.heap [] →
      W p l e (cn_R dep mc ms) s m args below meth c s.heap [] 0 0 (MQ below (cn_Q d ci h0 s.heap.size out) args s mc ms (cn_A ci h0 s.heap.size)) (F0 m 4 L [])) : cn_Met l d y cc dep mc ms ci out := by
  intro h0 sz
  obtain ⟨hok, h8⟩ := am_and2 hok
  obtain ⟨hok, h7⟩ := am_and2 hok
  obtain ⟨hok, h6⟩ := am_and2 hok
  obtain ⟨hok, h5⟩ := am_and2 hok
  obtain ⟨hok, h4⟩ := am_and2 hok
  obtain ⟨hok, h3⟩ := am_and2 hok
  obtain ⟨h1, h2⟩ := am_and2 hok
  obtain ⟨g1, g2⟩ := of_decide_eq_true h2
  subst g1
  have h8 := am_ble h8
  refine am_ofW (cc := cc) (maxL := 1) (ret := none) h1 rfl ?_
  intro p e s m args below meth c s₁ B hml hv
  obtain ⟨rfl, rfl, hP, hK, hN⟩ := hv
  have hts := atoms_spec (ws := Cond.code y cc 1 none :: am_gt) B.pre
  have hx := B.exec
  have hb := B.bytes
  have hown : s.vm.findClass y.cls = some m.cls := findClass_of_methodNamed B.named
  have hin : meth.name = "<init>" := ((name_of_methodNamed B.named B.method).1).trans g2
  have hts' : ∀ w ∈ am_gt, w.before ([Value.ref h0] : List Value).toArray s = true := fun w hw => hts w (List.mem_cons_of_mem _ hw)
  have hl := lv_entry ([.ref h0]) (n := 1) (Nat.le_of_ble_eq_true rfl)
  rw [lg_entry_eq]
  generalize (lg_sl ([.ref h0]) ++ List.replicate (1 - (lg_sl ([.ref h0])).length) Slot.unset).toArray = L at hl ⊢
  have hl : lv_has L 1 [(0, .ref h0)] := hl
  refine lv_aload_n hx hb (of_decide_eq_true h3) rfl (lv_at hl 0 rfl) ?_
  refine W.objInit hx hb hown (hts' _ (am_isw_mem h5)) (hts' _ (am_isw_mem h6)) (hts' _ (am_isw_mem h7)) rfl (by rw [hml]; exact hl.1) rfl (of_decide_eq_true h4) h8 (by show 2 * 0 + 0 + 12 ≤ 36 * dep; omega) ?_
  refine W.eq (g2 := F0 m 4 L []) rfl ?_
  exact body p e s m _ below meth c L h0 ⟨⟨hx, hb, hml, hown, hts'⟩, hK, hN, fun q h => Or.inr h⟩ hin B.returns B.notSynchronized hl hP ⟨fun i j x y hx hy _ => by
    have h1 : i < 1 := (List.getElem?_eq_some_iff.mp hx).1
    have h2 : j < 1 := (List.getElem?_eq_some_iff.mp hy).1
    omega, fun k x hk => va_A.in hk⟩ va_S.rf
