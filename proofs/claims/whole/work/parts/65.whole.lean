/-! THE CLAIM OUT OF ONE WALK OF THE LAW'S BODY. Your part is whole_start (and what it stands on); all else here is the same for every law, but numbers. -/
def R_law : String := "RoofMattressLaw"
def lw_P (b : Addr) (xs : List Int32) (args : Array Value) (s : State) : Prop := args = #[.ref b] ∧ s.IntsAt b xs ∧ xs.length ≤ 320 ∧ (Jvm.Cond.and given_1 narrow_1).before args s = true
def lw_Q (_ : Array Value) (s : State) (o : Outcome) (t : State) : Prop := o = .returned (some (.int 1)) ∧ Framed s o t [] 63 2508
def lw_Z (below : List Frame) (a : Array Value) (s : State) : State → Prop := fun t => ∃ o, t.status = .running ∧ Ended t below o ∧ lw_Q a s o t
/-- the law's own end, with 1 on the stack, nothing written that was there before, its room as the claim has it -/
theorem lw_ret {p : Program} {l : Launch} {e : Env} {s : State} {m : MethodId} {below : List Frame} {meth : Method} {c : Code} {b : Nat} (hx : p.tables.exec = Jvm.exec) (hb : c.code = code) (hr : meth.sig.returnType = ret) (hlocks : meth.locks = false) {pc : Nat} {H : Heap} {ls : Array Slot} (hdg : decode code pc = .ok (.ireturn, 1)) : W p l e room_1 s m #[Value.ref b] below meth c H [] 63 2508 (lw_Z below #[Value.ref b] s) (F0 m pc ls [.int 1]) := by
  intro T hT X
  obtain ⟨fs, hret, hrun, hended, hW, hframe⟩ := X.leave (v := some (.int 1)) (hlocks := hlocks) (fun h => by rw [hr] at h; cases h)
  have hmeth' : T.vm.method? m = some meth := X.method'
  refine ⟨T.setFrames fs, ?_, .returned (some (.int 1)), hrun, hended, rfl, ⟨_, rfl⟩, hW, hframe⟩
  jvm_step X.here [X.here.top, hx, hb, hdg, hmeth', hr, ret, narrow_b1]
  (try refine ⟨rfl, ?_⟩); (try refine ⟨rfl, ?_⟩)
  first | (intro acts; rw [hret _ acts rfl rfl rfl]) | rw [hret _ _ rfl rfl rfl]
  exact Steps.refl _
/-- what holds at the law's entry: the machine, the code, the tables' words (any of lw_tbl by 'hts w (by decide +kernel)'), the script of L ints xs at the cell b, what the Statement gives of the start (any of its parts by flat_of_before) -/
def lw_At (p : Program) (s : State) (m : MethodId) (meth : Method) (c : Code) (b L : Nat) (xs : Nat → Int32) : Prop :=
  p.tables.exec = Jvm.exec ∧ c.code = code ∧ meth.sig.returnType = ret ∧ c.maxLocals = 4 ∧ s.vm.findClass R_law = some m.cls ∧ (∀ w ∈ lw_tbl, w.before #[Value.ref b] s = true) ∧ va_X b L xs s s.heap ∧ b < s.heap.size ∧ meth.locks = false ∧ (Jvm.Cond.and given_1 narrow_1).before #[Value.ref b] s = true
set_option maxRecDepth 100000 in
set_option maxHeartbeats 8000000 in
/-- the law, from its entry, for every script of at most 320 ints -/
theorem whole_start {p : Program} {e : Env} {s : State} {m : MethodId} {below : List Frame} {meth : Method} {c : Code} (l : Launch) (hflags : l.flags = flags0) {b L : Nat} {xs : Nat → Int32} (hL : L ≤ 320) (C0 : lw_At p s m meth c b L xs) : W p l e room_1 s m #[Value.ref b] below meth c s.heap [] 0 0 (lw_Z below #[Value.ref b] s) (entryFrame m ([Value.ref b] : List Value).toArray 4) := by
  obtain ⟨hx, hb, hr, hml, hown, hts, hX, hbl, hlocks, hgv⟩ := C0
  have hgt : ∀ w ∈ am_gt, w.before #[Value.ref b] s = true := fun w hw => hts w (List.mem_filter.mp hw).1
  have hfl := flat_of_before _ hgv
  obtain ⟨D, hKc⟩ := st_known m.cls hgt
  obtain ⟨tI, hI1, hI2⟩ := st_acI (hgt _ (am_isw_mem (pl := 78) (by decide +kernel)))
  obtain ⟨tB, hB1, hB2⟩ := st_acB (hgt _ (am_isw_mem (pl := 251) (by decide +kernel)))
  obtain ⟨b0, hb0, hX0⟩ := st_arr (t := .static "RoofMattress$Reader" "LEAST" "[I") (f := am_least) (hfl _ (by decide +kernel)) (hfl _ (by decide +kernel)) (fun j hj => hfl _ (st_least j hj))
  obtain ⟨b1, hb1, hX1⟩ := st_arr (t := .static "RoofMattress$Reader" "MOST" "[I") (f := am_most) (hfl _ (by decide +kernel)) (hfl _ (by decide +kernel)) (fun j hj => hfl _ (st_most j hj))
  obtain ⟨d, hd⟩ : ∃ d : cn_G, d = (D, tI, tB) := ⟨_, rfl⟩
  have hK : va_K d.1 am_cls (cn_ty d) s := by
    subst hd
    refine ⟨hKc, fun k q hk => ?_⟩
    match k, hk with
    | 0, hk => cases hk; exact ⟨hI1, hI2⟩
    | 1, hk => cases hk; exact ⟨hB1, hB2⟩
    | k + 2, hk => cases hk
  have hN : ∀ w ∈ am_nt, va_Nw w s := fun w hw => by
    obtain ⟨h1, h2⟩ := List.mem_filter.mp hw
    cases w with
    | methodLinkNest c i y hst => exact va_Nw.of rfl (hts _ h1)
    | _ => cases h2
  obtain ⟨A, hA⟩ : ∃ A : Nat → Prop, A = fun q => s.heap.size ≤ q := ⟨_, rfl⟩
  have hA1 : ∀ q : Nat, q < s.heap.size → ¬ A q := fun q hq => by rw [hA]; exact Nat.not_le.mpr hq
  have hA2 : ∀ q, A q → s.heap.size ≤ q := fun q hq => by rw [hA] at hq; exact hq
  have hC : cn_C p s m #[Value.ref b] c code "RoofMattressLaw" 4 d A := ⟨⟨hx, hb, hml, hown, hgt⟩, hK, hN, fun q h => by rw [hA]; exact h⟩
  have hP0 : va_P d.1 am_cls [] s.heap := fun k q h => by simp at h
  have hD0 : va_D A [] := ⟨fun i j p q h => by simp at h, fun k q h => by simp at h⟩
  have hl := lv_entry ([.ref b]) (n := 4) (Nat.le_of_ble_eq_true rfl)
  rw [lg_entry_eq]
  generalize (lg_sl ([.ref b]) ++ List.replicate (4 - (lg_sl ([.ref b])).length) Slot.unset).toArray = ls at hl ⊢
  have hl : lv_has ls 4 [(0, .ref b)] := hl
  refine cn_make 0 9 11 7 9 55 56 42 58 59 57 false hC (ct_X9 l d) hl.1 (by decide +kernel) hP0 hD0 va_S.rf (fun q => (Nat.le_of_ble_eq_true rfl)) (Nat.le_of_ble_eq_true rfl) (Nat.le_of_ble_eq_true rfl) (Nat.le_of_ble_eq_true rfl) (Nat.le_of_ble_eq_true rfl) (fun xq xa H locs hP hD hS => ?_)
  refine lv_astore_n (lv' := [(1, .ref xq), (0, .ref b)]) hx hb (show decode code 7 = .ok (.astore_n 1, 1) by decide +kernel) rfl hl (by decide) rfl (fun ls hl => ?_)
  refine cn_make 8 10 36 10 12 792 793 52 795 796 794 false hC (ct_X10 l d) hl.1 (by decide +kernel) hP hD hS (fun q => (Nat.le_of_ble_eq_true rfl)) (Nat.le_of_ble_eq_true rfl) (Nat.le_of_ble_eq_true rfl) (Nat.le_of_ble_eq_true rfl) (Nat.le_of_ble_eq_true rfl) (fun mq ma H locs hP hD hS => ?_)
  refine lv_astore_n (lv' := [(2, .ref mq), (1, .ref xq), (0, .ref b)]) hx hb (show decode code 15 = .ok (.astore_n 2, 1) by decide +kernel) rfl hl (by decide) rfl (fun ls hl => ?_)
  refine lv_iconst (v := Int32.ofInt 0) hx hb (show decode code 16 = .ok (.iconst 0, 1) by decide +kernel) rfl ?_
  refine lv_istore_n (lv' := [(3, .int (Int32.ofInt 0)), (2, .ref mq), (1, .ref xq), (0, .ref b)]) hx hb (show decode code 17 = .ok (.istore_n 3, 1) by decide +kernel) rfl hl (by decide) rfl (fun ls hl => ?_)
  have hP1 : va_P d.1 am_cls (am_wo (d.1, st_ad mq ma xq xa b0 b1 b, d.2.1, d.2.2) st_mem) H := by rw [st_wo]; exact st_P hP
  have hD1 : va_D A (am_wo (d.1, st_ad mq ma xq xa b0 b1 b, d.2.1, d.2.2) st_mem) := by rw [st_wo]; exact st_D hD
  have hg63 : st_ad mq ma xq xa b0 b1 b 63 = b0 := rfl
  have hg64 : st_ad mq ma xq xa b0 b1 b 64 = b1 := rfl
  have hg65 : st_ad mq ma xq xa b0 b1 b 65 = b := rfl
  have hg17 : st_ad mq ma xq xa b0 b1 b 17 = xq := rfl
  have hg0 : st_ad mq ma xq xa b0 b1 b 0 = mq := rfl
  generalize st_ad mq ma xq xa b0 b1 b = ad at hP1 hD1 hg63 hg64 hg65 hg17 hg0
  obtain ⟨hinj, hAk⟩ := st_inj hD1
  have hini := hgt _ (am_isw_mem (pl := 44) (w := .initialized "RoofMattress$Reader") (by decide +kernel))
  have hEnv : am_Env (d.1, ad, d.2.1, d.2.2) A s s.heap := by
    refine ⟨hK, hN, hinj, ⟨?_, ?_, ?_⟩, ?_, ?_, ?_⟩
    · show va_X (ad 63) _ _ _ _; rw [hg63]; exact hX0
    · show ¬ A (ad 63); rw [hg63]; exact hA1 _ (am_X_lt hX0)
    · show va_Z _ _ _ (.ref (ad 63)) _ _ _; rw [hg63]; exact va_Zof (hts _ (List.mem_of_getElem? (i := 426) (by decide +kernel))) hini hb0 hA1
    · show va_X (ad 64) _ _ _ _; rw [hg64]; exact hX1
    · show ¬ A (ad 64); rw [hg64]; exact hA1 _ (am_X_lt hX1)
    · show va_Z _ _ _ (.ref (ad 64)) _ _ _; rw [hg64]; exact va_Zof (hts _ (List.mem_of_getElem? (i := 428) (by decide +kernel))) hini hb1 hA1
  have hfR : ∀ j, am_inR ((xs j).toInt) := fun j => ⟨Int32.le_toInt _, by have := Int32.toInt_lt (xs j); omega⟩
  have hCC : am_C p room_1 s m #[Value.ref b] c 63 2508 code "RoofMattressLaw" 4 7 (d.1, ad, d.2.1, d.2.2) A (lw_rom L (fun j => (xs j).toInt)) := by
    refine ⟨⟨hx, hb, hml, hown, hgt⟩, ⟨(Nat.le_of_ble_eq_true rfl), (Nat.le_of_ble_eq_true rfl), (Nat.le_of_ble_eq_true rfl), (Nat.le_of_ble_eq_true rfl)⟩, hEnv, hAk, fun k n f hf => ?_⟩
    unfold lw_rom at hf
    cases h65 : Nat.beq k 65 with
    | false => rw [h65] at hf; cases hf
    | true =>
      rw [h65] at hf
      cases hf
      have := am_beq h65
      subst this
      refine ⟨?_, ?_, by omega, hfR⟩
      · show va_X (ad 65) _ _ _ _
        rw [hg65, show am_ofI (fun j => (xs j).toInt) = xs from funext fun j => Int32.ofInt_toInt (xs j)]
        exact hX
      · show ¬ A (ad 65)
        rw [hg65]; exact hA1 _ hbl
  have hret : am_Ret p l e room_1 s m #[Value.ref b] below meth c 63 2508 (lw_Z below #[Value.ref b] s) code (d.1, ad, d.2.1, d.2.2) A false true lw_one := by
    refine ⟨fun pc z mem H locs L _ hdg hq _ _ _ _ hS => ?_, fun pc mem H locs L hrv => by cases hrv⟩
    have hz : z = 1 := hq
    subst hz
    exact va_forget (fun q hq => hA2 _ (hS.2.2 q hq)) (lw_ret hx hb hr hlocks hdg)
  have J := lw_loop hCC hret hL hfR 65 0 st_mem (Nat.zero_le _) rfl st_R
  refine W.widen (k := 63) (n := 2508) (Nat.le_of_ble_eq_true rfl) (Nat.le_of_ble_eq_true rfl) ?_
  have hl2 : lv_has ls 4 [(0, .ref (ad 65)), (1, .ref (ad 17)), (2, .ref (ad 0)), (3, .int (Int32.ofInt 0))] := by
    rw [hg65, hg17, hg0]
    exact lv_sub hl [3, 2, 1, 0] rfl
  refine J (fun q hq => ?_) (fun v hv => by simp at hv) st_okm H locs ls hP1 hS hl2
  simp only [List.mem_cons, List.not_mem_nil, or_false] at hq
  rcases hq with rfl | rfl | rfl | rfl
  · trivial
  · trivial
  · trivial
  · exact am_in0
