/-! the surroundings of a method: tables, static arrays, distinct cells -/
def am_least : Nat → Int := fun j => ([1, 1, 0, 0, 0, 0, 1, 10, 0] : List Int).getD j 0
def am_most : Nat → Int := fun j => ([99, 40, 999, 3, 99, 9, 20, 70, 30] : List Int).getD j 0
def am_ofI (f : Nat → Int) : Nat → Int32 := fun j => Int32.ofInt (f j)
def am_Env (g : am_G) (A : Nat → Prop) (U : State) (H : Heap) : Prop :=
  va_K g.1 am_cls [(g.2.2.1, .int), (g.2.2.2, .boolean)] U ∧ (∀ w ∈ am_nt, va_Nw w U) ∧ am_inj g ∧
  (va_X (g.2.1 63) 9 (am_ofI am_least) U H ∧ ¬ A (g.2.1 63) ∧ va_Z "RoofMattress$Reader" "LEAST" "[I" (.ref (g.2.1 63)) A U H) ∧
  (va_X (g.2.1 64) 9 (am_ofI am_most) U H ∧ ¬ A (g.2.1 64) ∧ va_Z "RoofMattress$Reader" "MOST" "[I" (.ref (g.2.1 64)) A U H)
theorem am_X_lt {b L : Nat} {xs : Nat → Int32} {U : State} {H : Heap} (h : va_X b L xs U H) : b < H.size := by
  obtain ⟨scr, h1, -⟩ := h
  exact (Array.getElem?_eq_some_iff.mp h1).1
theorem am_Env.calling {g : am_G} {A : Nat → Prop} {U : State} {gf : JFrame} {mk : MethodId} {a : Array Value} (h : am_Env g A U U.heap) : am_Env g A (U.calling gf mk a) (U.calling gf mk a).heap := by
  obtain ⟨h1, h2, h3, ⟨a1, a2, a3⟩, b1, b2, b3⟩ := h
  have hv : U.vm.Alike (U.calling gf mk a).vm := Vm.Alike.refl U.vm
  refine ⟨va_K.moved (u := U) (U := U.calling gf mk a) (Vm.Alike.refl U.vm) h1, fun w hw => ?_, h3, ⟨va_X.moved (u := U) (U := U.calling gf mk a) hv a1, a2, va_Z.moved (u := U) (U := U.calling gf mk a) hv a3⟩, va_X.moved (u := U) (U := U.calling gf mk a) hv b1, b2, va_Z.moved (u := U) (U := U.calling gf mk a) hv b3⟩
  have hn := (List.mem_filter.mp hw).2
  cases w with
  | methodLinkNest c i y hst => exact va_Nw.same (u := U) (U := U.calling gf mk a) rfl rfl (h2 _ hw)
  | _ => cases hn
/-- at a call: another state of the same tables, with the heap as it is now -/
theorem am_Env.at {g : am_G} {A B : Nat → Prop} {s U : State} {H : Heap} {locs : List Loc} (h : am_Env g A s s.heap) (hS : va_S A s.heap H locs) (hBA : ∀ q, B q → A q) (hU : U.heap = H) (hW : s.WarmedH U.vm) : am_Env g B U U.heap := by
  obtain ⟨h1, h2, h3, ⟨a1, a2, a3⟩, b1, b2, b3⟩ := h
  have kx : ∀ {b L : Nat} {xs : Nat → Int32}, va_X b L xs s s.heap → ¬ A b → va_X b L xs U U.heap := fun {b L xs} hx hb => by
    rw [hU]
    exact va_X.moved hW.alike (hx.kept (hS.2.1 b (am_X_lt hx) hb))
  have kz : ∀ {C n d : String} {v : Value}, va_Z C n d v A s s.heap → va_Z C n d v B U U.heap := fun {C n d v} hz => by
    rw [hU]
    exact va_Z.moved hW.alike ((hz.kept (fun a ha hna => hS.2.1 a ha hna)).narrow hBA)
  refine ⟨va_K.moved hW.alike h1, fun w hw => ?_, h3, ⟨kx a1 a2, fun z => a2 (hBA _ z), kz a3⟩, kx b1 b2, fun z => b2 (hBA _ z), kz b3⟩
  have hn := (List.mem_filter.mp hw).2
  cases w with
  | methodLinkNest c i y hst => exact va_Nw.warmM hW (h2 _ hw)
  | _ => cases hn
def am_rmd (d : Nat) : Room := { frames := d, cells := 0, slots := 0, locals := 36 * d }
def am_B (g : am_G) (mem : am_Mem) (U : State) : Prop := va_P g.1 am_cls (am_wo g mem) U.heap ∧ am_Env g (am_A g) U U.heap
def am_Qc (g : am_G) (rv : Bool) (Q : am_Po) : Array Value → State → Outcome → State → Prop := fun _ st oc t =>
  (∃ (z : Int) (mem' : am_Mem), oc = .returned (bif rv then none else some (.int (Int32.ofInt z))) ∧ Q z mem' ∧ am_inR z ∧ am_okm mem' ∧ va_P g.1 am_cls (am_wo g mem') t.heap) ∧ va_F (am_A g) st t
def am_isV (r : Option FieldType) : Bool := match r with
  | none => true
  | some _ => false
/-- the contract of method y, by its number -/
def am_Mt (l : Launch) (g : am_G) (y : Nat) (as : List am_AV) (mem : am_Mem) (Q : am_Po) : Prop :=
  am_oks as → am_okm mem → Met l (am_mi y).1 (.code (am_mi y).1 (am_mi y).2.1 (am_mi y).2.2.1 (am_mi y).2.2.2.1 :: am_gt) (am_rmd (am_mi y).2.2.2.2.1) (va_Pc (as.map (am_vl g.2.1)) (am_B g mem)) (am_Qc g (am_isV (am_mi y).2.2.2.1) Q) 0 0 (am_A g)
theorem am_B.blind {g : am_G} {mem : am_Mem} {as : List Value} : FrameBlind (va_Pc as (am_B g mem)) := by
  intro a U gf mk h
  obtain ⟨h1, h2, h3⟩ := h
  exact ⟨h1, h2, h3.calling⟩
section AMC
variable {p : Program} {l : Launch} {e : Env} {R : Room} {s : State} {m : MethodId} {args : Array Value} {below : List Frame} {meth : Method} {c : Code} {H : Heap} {locs : List Loc} {cells slots : Nat} {Qf : State → Prop}
variable {pc : Nat} {L : Array Slot} {rest st0 : List Value} {a : Array Value} {A : Nat → Prop} {g : am_G}
/-- behind a call -/
theorem am_callk {rv : Bool} {Qc : am_Po} (hr : va_Run p l e R s m args below meth c H locs cells slots 0 0 (F0 m pc L st0) rest (am_Qc g rv Qc a) (am_A g)) (hS : va_S A s.heap H locs) (hAA : ∀ q, am_A g q → A q)
    (kk : ∀ (z : Int) (mem' : am_Mem) (H1 : Heap) (locs1 : List Loc), Qc z mem' → am_inR z → am_okm mem' → va_P g.1 am_cls (am_wo g mem') H1 → va_S A s.heap H1 locs1 → W p l e R s m args below meth c H1 locs1 cells slots Qf (F0 m (pc + 3) L (bif rv then rest else .int (Int32.ofInt z) :: rest))) : W p l e R s m args below meth c H locs cells slots Qf (F0 m pc L st0) := by
  intro T hT X
  obtain ⟨v, st₀, t, T', Lq, h0, X', hL, e1, e2, ⟨⟨z, mem', hv, hq, hz, hm, hP⟩, hsz, hk⟩, st⟩ := hr T hT X
  rw [h0] at hsz hk
  have hv' : v = bif rv then none else some (.int (Int32.ofInt z)) := by cases hv; rfl
  obtain ⟨t2, a1, b1⟩ := kk z mem' T'.heap (locs ++ Lq) hq hz hm (by rw [e1]; exact hP)
    ⟨Nat.le_trans hS.1 (by rw [e1]; exact hsz), fun q h1 h2 => by rw [e1, hk q (Nat.lt_of_lt_of_le h1 hS.1) (fun z => h2 (hAA q z))]; exact hS.2.1 q h1 h2, fun q hq => by
      rcases List.mem_append.mp hq with h | h
      · exact hS.2.2 q h
      · exact hAA _ (hL q h)⟩ T' rfl X'
  refine ⟨t2, st t2 ?_, b1⟩
  subst hv'
  cases rv <;> exact a1
end AMC
theorem am_take_ok : ∀ (n : Nat) (st acc as r : List am_AV), am_take n st acc = some (as, r) → ∃ pre, st = pre ++ r ∧ pre.length = n ∧ as = pre.reverse ++ acc
  | 0, st, acc, as, r, h => by
    simp only [am_take, Option.some.injEq, Prod.mk.injEq] at h
    obtain ⟨rfl, rfl⟩ := h
    exact ⟨[], rfl, rfl, rfl⟩
  | n + 1, v :: st, acc, as, r, h => by
    simp only [am_take] at h
    obtain ⟨pre, h1, h2, h3⟩ := am_take_ok n st (v :: acc) as r h
    exact ⟨v :: pre, by rw [h1]; rfl, by simp [h2], by rw [h3]; simp⟩
  | n + 1, [], _, _, _, h => by simp [am_take] at h
theorem am_take_st {n : Nat} {st as r : List am_AV} (h : am_take n st [] = some (as, r)) (f : am_AV → Value) : st.map f = (as.map f).reverse ++ r.map f ∧ as.length = n ∧ (am_oks st → am_oks as ∧ am_oks r) := by
  obtain ⟨pre, h1, h2, h3⟩ := am_take_ok n st [] as r h
  simp only [List.append_nil] at h3
  subst h1; subst h3
  refine ⟨by simp, by simp [h2], fun ho => ⟨fun v hv => ho v ?_, fun v hv => ho v ?_⟩⟩
  · exact List.mem_append_left _ (List.mem_reverse.mp hv)
  · exact List.mem_append_right _ hv
theorem am_cat (ad : Nat → Nat) : ∀ (st : List am_AV), ((st.map (am_vl ad)).map fun v => v.category).sum ≤ 2 * st.length
  | [] => by simp
  | v :: r => by
    have h := am_cat ad r
    have h1 : (am_vl ad v).category ≤ 2 := by
      rcases lv_cat (am_vl ad v) with h | h <;> omega
    simp only [List.map_cons, List.sum_cons, List.length_cons]
    omega
theorem am_lget_mem : ∀ {ls : am_Lc} {i : Nat} {v : am_AV}, am_lget ls i = some v → (i, v) ∈ ls
  | [], i, v, h => by simp [am_lget] at h
  | q :: r, i, v, h => by
    unfold am_lget at h
    cases hb : Nat.beq i q.1 with
    | true =>
      rw [hb] at h
      simp only [cond_true, Option.some.injEq] at h
      have := Nat.eq_of_beq_eq_true hb
      subst this; subst h
      exact List.mem_cons_self
    | false =>
      rw [hb] at h
      simp only [cond_false] at h
      exact List.mem_cons_of_mem _ (am_lget_mem h)
theorem am_ldel_mem {i : Nat} : ∀ {ls : am_Lc} {q : Nat × am_AV}, q ∈ am_ldel i ls → q ∈ ls ∧ q.1 ≠ i ∧ ¬ (q.1 + 1 = i ∧ am_isl q.2 = true)
  | [], q, h => by simp [am_ldel] at h
  | p :: r, q, h => by
    unfold am_ldel at h
    cases hb : (Nat.beq p.1 i || (Nat.beq (p.1 + 1) i && am_isl p.2)) with
    | true =>
      rw [hb] at h
      obtain ⟨h1, h2⟩ := am_ldel_mem (ls := r) h
      exact ⟨List.mem_cons_of_mem _ h1, h2⟩
    | false =>
      rw [hb] at h
      rcases List.mem_cons.mp h with rfl | h
      · simp only [Bool.or_eq_false_iff, Bool.and_eq_false_iff] at hb
        refine ⟨List.mem_cons_self, fun e => ?_, fun e => ?_⟩
        · have := Nat.beq_eq ▸ e
          simp_all
        · rcases hb.2 with h1 | h1
          · have := e.1
            simp_all
          · rw [e.2] at h1; cases h1
      · obtain ⟨h1, h2⟩ := am_ldel_mem (ls := r) h
        exact ⟨List.mem_cons_of_mem _ h1, h2⟩
theorem am_lde2_mem {i : Nat} : ∀ {ls : am_Lc} {q : Nat × am_AV}, q ∈ am_lde2 i ls → q ∈ ls ∧ q.1 ≠ i ∧ q.1 ≠ i + 1 ∧ ¬ (q.1 + 1 = i ∧ am_isl q.2 = true)
  | [], q, h => by simp [am_lde2] at h
  | p :: r, q, h => by
    unfold am_lde2 at h
    cases hb : (Nat.beq p.1 i || (Nat.beq p.1 (i + 1) || (Nat.beq (p.1 + 1) i && am_isl p.2))) with
    | true =>
      rw [hb] at h
      obtain ⟨h1, h2⟩ := am_lde2_mem (ls := r) h
      exact ⟨List.mem_cons_of_mem _ h1, h2⟩
    | false =>
      rw [hb] at h
      rcases List.mem_cons.mp h with rfl | h
      · simp only [Bool.or_eq_false_iff, Bool.and_eq_false_iff] at hb
        refine ⟨List.mem_cons_self, fun e => ?_, fun e => ?_, fun e => ?_⟩
        · simp_all
        · simp_all
        · rcases hb.2.2 with h1 | h1
          · have := e.1
            simp_all
          · rw [e.2] at h1; cases h1
      · obtain ⟨h1, h2⟩ := am_lde2_mem (ls := r) h
        exact ⟨List.mem_cons_of_mem _ h1, h2⟩
theorem am_isl_cat {ad : Nat → Nat} {v : am_AV} (h : am_isl v = false) : (am_vl ad v).category = 1 := by
  match v with
  | .inl _ => rfl
  | .inr (.inl _) => rfl
  | .inr (.inr _) => cases h
abbrev am_lm (ad : Nat → Nat) (ls : am_Lc) : List (Nat × Value) := ls.map fun q => (q.1, am_vl ad q.2)
theorem am_has_del {ad : Nat → Nat} {L : Array Slot} {nL i : Nat} {ls : am_Lc} {v : am_AV} (h : lv_has L nL ((i, am_vl ad v) :: (am_lm ad ls).filter (fun q => !(q.1 == i) && !(q.1 + 1 == i && q.2.category == 2)))) : lv_has L nL (am_lm ad ((i, v) :: am_ldel i ls)) := by
  refine ⟨h.1, h.2.1, fun q hq => ?_⟩
  obtain ⟨w, hw, rfl⟩ := List.mem_map.mp hq
  rcases List.mem_cons.mp hw with rfl | hw
  · exact h.2.2 _ List.mem_cons_self
  · obtain ⟨h1, h2, h3⟩ := am_ldel_mem hw
    refine h.2.2 _ (List.mem_cons_of_mem _ (List.mem_filter.mpr ⟨List.mem_map.mpr ⟨w, h1, rfl⟩, ?_⟩))
    by_cases e : w.1 + 1 = i
    · have : am_isl w.2 = false := by
        cases hh : am_isl w.2 with
        | false => rfl
        | true => exact absurd ⟨e, hh⟩ h3
      simp [h2, am_isl_cat (ad := ad) this]
    · simp [h2, e]
theorem am_has_de2 {ad : Nat → Nat} {L : Array Slot} {nL i : Nat} {ls : am_Lc} {v : am_AV} (h : lv_has L nL ((i, am_vl ad v) :: (am_lm ad ls).filter (fun q => !(q.1 == i) && (!(q.1 == i + 1) && !(q.1 + 1 == i && q.2.category == 2))))) : lv_has L nL (am_lm ad ((i, v) :: am_lde2 i ls)) := by
  refine ⟨h.1, h.2.1, fun q hq => ?_⟩
  obtain ⟨w, hw, rfl⟩ := List.mem_map.mp hq
  rcases List.mem_cons.mp hw with rfl | hw
  · exact h.2.2 _ List.mem_cons_self
  · obtain ⟨h1, h2, h2', h3⟩ := am_lde2_mem hw
    refine h.2.2 _ (List.mem_cons_of_mem _ (List.mem_filter.mpr ⟨List.mem_map.mpr ⟨w, h1, rfl⟩, ?_⟩))
    by_cases e : w.1 + 1 = i
    · have : am_isl w.2 = false := by
        cases hh : am_isl w.2 with
        | false => rfl
        | true => exact absurd ⟨e, hh⟩ h3
      simp [h2, h2', am_isl_cat (ad := ad) this]
    · simp [h2, h2', e]
theorem am_has_get {ad : Nat → Nat} {L : Array Slot} {nL i : Nat} {ls : am_Lc} {v : am_AV} (h : lv_has L nL (am_lm ad ls)) (hg : am_lget ls i = some v) : L[i]? = some (.val (am_vl ad v)) :=
  h.2.2 (i, am_vl ad v) (List.mem_map.mpr ⟨(i, v), am_lget_mem hg, rfl⟩)
theorem am_okl_del {ls : am_Lc} {i : Nat} {v : am_AV} (h : am_okl ls) (hv : am_okv v) : am_okl ((i, v) :: am_ldel i ls) := fun q hq => by
  rcases List.mem_cons.mp hq with rfl | hq
  · exact hv
  · exact h q (am_ldel_mem hq).1
theorem am_okl_de2 {ls : am_Lc} {i : Nat} {v : am_AV} (h : am_okl ls) (hv : am_okv v) : am_okl ((i, v) :: am_lde2 i ls) := fun q hq => by
  rcases List.mem_cons.mp hq with rfl | hq
  · exact hv
  · exact h q (am_lde2_mem hq).1
theorem am_kp_ok {ad : Nat → Nat} {L : Array Slot} {nL : Nat} {ls : am_Lc} (h : lv_has L nL (am_lm ad ls)) (ho : am_okl ls) : ∀ {keep : List Nat} {vs : List am_AV}, am_kp ls keep = some vs → lv_has L nL (am_lm ad (keep.zip vs)) ∧ am_oks vs
  | [], vs, hk => by
    simp only [am_kp, Option.some.injEq] at hk
    subst hk
    exact ⟨⟨h.1, h.2.1, fun q hq => by simp at hq⟩, fun v hv => by simp at hv⟩
  | i :: r, vs, hk => by
    unfold am_kp at hk
    cases h1 : am_lget ls i with
    | none => rw [h1] at hk; cases hk
    | some v =>
      rw [h1] at hk
      cases h2 : am_kp ls r with
      | none => rw [h2] at hk; cases hk
      | some vr =>
        rw [h2] at hk
        simp only [Option.some.injEq] at hk
        subst hk
        obtain ⟨g1, g2⟩ := am_kp_ok h ho h2
        refine ⟨⟨h.1, h.2.1, fun q hq => ?_⟩, fun w hw => ?_⟩
        · simp only [am_lm, List.zip_cons_cons, List.map_cons, List.mem_cons] at hq
          rcases hq with rfl | hq
          · exact am_has_get h h1
          · exact g1.2.2 q hq
        · rcases List.mem_cons.mp hw with rfl | hw
          · exact ho _ (am_lget_mem h1)
          · exact g2 w hw
theorem am_oks_cons {v : am_AV} {st : List am_AV} (hv : am_okv v) (h : am_oks st) : am_oks (v :: st) := fun w hw => by
  rcases List.mem_cons.mp hw with rfl | hw
  · exact hv
  · exact h w hw
theorem am_oks_tl {v : am_AV} {st : List am_AV} (h : am_oks (v :: st)) : am_oks st := fun w hw => h w (List.mem_cons_of_mem _ hw)
theorem am_okm_up {mem : am_Mem} {a j : Nat} {z : Int} (h : am_okm mem) (hz : am_inR z) : am_okm (am_up mem a j z) := fun k i => by
  unfold am_up
  split
  · exact hz
  · exact h k i
theorem am_okm_cp {mem : am_Mem} {a sp b dp n : Nat} (h : am_okm mem) : am_okm (am_cp mem a sp b dp n) := fun k i => by
  unfold am_cp
  split
  · exact h _ _
  · exact h k i
