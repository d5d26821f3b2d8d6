section STQ
variable {p : Program} {l : Launch} {e : Env} {R : Room} {s : State} {m : MethodId} {args : Array Value} {below : List Frame} {meth : Method} {c : Code} {cells slots : Nat} {Qf : State → Prop} {cc : ByteArray} {own : String} {nL dp : Nat} {g : am_G} {A : Nat → Prop} {rom : Nat → Option (Nat × (Nat → Int))} {rv rb : Bool} {Q : am_Po}
theorem am_o1_ok {o : Option am_AV} {f : Int → Prop} (h : am_o1 o f) : ∃ z, o = some (.inl z) ∧ f z := by
  match o, h with
  | some (.inl z), h => exact ⟨z, rfl, h⟩
theorem am_oa_ok {o : Option am_AV} {f : Nat → Prop} (h : am_oa o f) : ∃ z, o = some (.inr (.inl z)) ∧ f z := by
  match o, h with
  | some (.inr (.inl z)), h => exact ⟨z, rfl, h⟩
theorem am_ol_ok {o : Option am_AV} {f : Int → Prop} (h : am_ol o f) : ∃ z, o = some (.inr (.inr z)) ∧ f z := by
  match o, h with
  | some (.inr (.inr z)), h => exact ⟨z, rfl, h⟩
theorem am_s1_ok {st : List am_AV} {f : Int → List am_AV → Prop} (h : am_s1 st f) : ∃ x r, st = .inl x :: r ∧ f x r := by
  match st, h with
  | .inl x :: r, h => exact ⟨x, r, rfl, h⟩
theorem am_sr_ok {st : List am_AV} {f : Nat → List am_AV → Prop} (h : am_sr st f) : ∃ x r, st = .inr (.inl x) :: r ∧ f x r := by
  match st, h with
  | .inr (.inl x) :: r, h => exact ⟨x, r, rfl, h⟩
theorem am_sl_ok {st : List am_AV} {f : Int → List am_AV → Prop} (h : am_sl st f) : ∃ x r, st = .inr (.inr x) :: r ∧ f x r := by
  match st, h with
  | .inr (.inr x) :: r, h => exact ⟨x, r, rfl, h⟩
abbrev am_Kk (p : Program) (l : Launch) (e : Env) (R : Room) (s : State) (m : MethodId) (args : Array Value) (below : List Frame) (meth : Method) (c : Code) (cells slots : Nat) (Qf : State → Prop) (nL : Nat) (g : am_G) (A : Nat → Prop) (k : Nat → am_Lc → List am_AV → am_Mem → Prop) : Prop := ∀ pc' ls' st' mem', k pc' ls' st' mem' → am_J p l e R s m args below meth c cells slots Qf nL g A pc' ls' st' mem'
def am_fval (g : am_G) (mem : am_Mem) (o j : Nat) (fk : Nat) : Value := match fk with
  | 0 => .int (Int32.ofInt (mem o j))
  | 1 => .int (Int32.ofInt (mem o j))
  | r + 2 => .ref (g.2.1 r)
set_option maxHeartbeats 4000000 in
/-- fields -/
theorem am_step_get (hC : am_C p R s m args c cells slots cc own nL dp g A rom) {pc : Nat} {ls : am_Lc} {st : List am_AV} {mem : am_Mem} {k : Nat → am_Lc → List am_AV → am_Mem → Prop} {idx ci j pl o : Nat} {fks : List Nat} {H : Heap} {locs : List Loc} {L : Array Slot}
    (hd : decode cc pc = .ok (.getfield idx, 3)) (hsh : am_SH o = some (.inr (ci, fks))) (hf : am_fw own idx ci j pl false = true) {fk : Nat} (hfk : fks[j]? = some fk) (hP : va_P g.1 am_cls (am_wo g mem) H)
    (kk : W p l e R s m args below meth c H locs cells slots Qf (F0 m (pc + 3) L (am_fval g mem o j fk :: st.map (am_vl g.2.1)))) : W p l e R s m args below meth c H locs cells slots Qf (F0 m pc L (.ref (g.2.1 o) :: st.map (am_vl g.2.1))) := by
  obtain ⟨⟨hex, hb, hml, hown, hts⟩, hR, hEnv, hA, hrom⟩ := hC
  obtain ⟨q, hq, hlen, -, -⟩ := am_sh_obj hsh
  unfold am_fw at hf
  rw [hq] at hf
  obtain ⟨h1, h3⟩ := am_and2 hf
  obtain ⟨h1, h2⟩ := am_and2 h1
  obtain ⟨C, T, N⟩ := q
  refine va_get hex hb hts (am_lays ci _ hq) hown hEnv.1 hP o (am_wo_get g mem hsh) hq j (am_blt h1) (hts _ (am_isw_mem h2)) (fun x hx => hx) (am_fv_get g.2.1 mem o fks 0 j fk hfk) hd ?_
  rw [Nat.zero_add]
  exact kk
set_option maxHeartbeats 4000000 in
theorem am_step_put (hC : am_C p R s m args c cells slots cc own nL dp g A rom) {pc : Nat} {st : List am_AV} {mem : am_Mem} {idx ci j pl o : Nat} {fks : List Nat} {H : Heap} {locs : List Loc} {L : Array Slot} {z : Int}
    (hd : decode cc pc = .ok (.putfield idx, 3)) (hsh : am_SH o = some (.inr (ci, fks))) (hf : am_fw own idx ci j pl true = true) (hfk : fks[j]? = some 0 ∨ (fks[j]? = some 1 ∧ (z = 0 ∨ z = 1))) (hP : va_P g.1 am_cls (am_wo g mem) H) (hS : va_S A s.heap H locs)
    (kk : ∀ (H1 : Heap) (locs1 : List Loc), va_P g.1 am_cls (am_wo g (am_up mem o j z)) H1 → va_S A s.heap H1 locs1 → W p l e R s m args below meth c H1 locs1 cells slots Qf (F0 m (pc + 3) L (st.map (am_vl g.2.1)))) : W p l e R s m args below meth c H locs cells slots Qf (F0 m pc L (.int (Int32.ofInt z) :: .ref (g.2.1 o) :: st.map (am_vl g.2.1))) := by
  obtain ⟨⟨hex, hb, hml, hown, hts⟩, hR, hEnv, hA, hrom⟩ := hC
  obtain ⟨q, hq, hlen, hI, hZ⟩ := am_sh_obj hsh
  unfold am_fw at hf
  rw [hq] at hf
  obtain ⟨h1, h3⟩ := am_and2 hf
  obtain ⟨h1, h2⟩ := am_and2 h1
  obtain ⟨C, T, N⟩ := q
  have hfin : (T j).2.2.2 = false := by simpa using h3
  have hj : j < fks.length := by rcases hfk with h | h <;> exact (List.getElem?_eq_some_iff.mp (by first | exact h | exact h.1)).1
  have hset : (am_wo g mem).set o (g.2.1 o, .inr (ci, (am_fv g.2.1 mem o 0 fks).set j (.int (Int32.ofInt z)))) = am_wo g (am_up mem o j z) := by
    have e := am_fv_set g.2.1 mem o z fks 0 j (by rcases hfk with h | h; exact Or.inl h; exact Or.inr h.1)
    rw [e, Nat.zero_add]
    exact am_wo_set g hsh (fun k hk c' => am_ce_ext g (fun i => am_up_ne hk) c')
  obtain ⟨ty, hd1, hn, hft⟩ : ∃ ty, parseFieldDescriptor (T j).2.2.1 = some ty ∧ narrow ty (.int (Int32.ofInt z)) = .int (Int32.ofInt z) ∧ fits ty (.int (Int32.ofInt z)) = true := by
    rcases hfk with h | ⟨h, hz⟩
    · exact ⟨.int, by rw [show (T j).2.2.1 = "I" from hI j h]; decide +kernel, rfl, rfl⟩
    · refine ⟨.boolean, by rw [show (T j).2.2.1 = "Z" from hZ j h]; decide +kernel, ?_, ?_⟩
      · rcases hz with rfl | rfl <;> decide +kernel
      · rcases hz with rfl | rfl <;> decide +kernel
  refine va_put hex hb hts (am_lays ci _ hq) (am_ty ci) (am_cls_ty ci _ hq) (am_cls_nm ci _ hq) hown hEnv.1 hP (am_wo_D hEnv.2.2.1 hA mem) hS o (am_wo_get g mem hsh) hq j (am_blt h1) (hts _ (am_isw_mem h2)) (fun x hx => hx) hfin hd1 hn hft (by rw [am_fv_len]; exact hj) hd (fun H1 locs1 hP1 hD1 hS1 => ?_)
  rw [hset] at hP1
  exact kk H1 locs1 hP1 hS1
theorem am_tysI {g : am_G} : ([(g.2.2.1, .int), (g.2.2.2, .boolean)] : List (ClassId × FieldType))[0]? = some (g.2.2.1, .int) := rfl
theorem am_tysZ {g : am_G} : ([(g.2.2.1, .int), (g.2.2.2, .boolean)] : List (ClassId × FieldType))[1]? = some (g.2.2.2, .boolean) := rfl
theorem am_arr_set {g : am_G} {mem mem' : am_Mem} {a n : Nat} {z : Bool} {f : Nat → Int32} (hsh : am_SH a = some (.inl (z, n))) (hf : f = fun j => Int32.ofInt (mem' a j)) (ho : ∀ k, k ≠ a → ∀ i, mem' k i = mem k i) : (am_wo g mem).set a (g.2.1 a, .inl (bif z then g.2.2.2 else g.2.2.1, n, .inl f)) = am_wo g mem' := by
  subst hf
  exact am_wo_set g hsh (fun k hk c' => am_ce_ext g (ho k hk) c')
set_option maxHeartbeats 4000000 in
theorem am_step_copy (hC : am_C p R s m args c cells slots cc own nL dp g A rom) {pc : Nat} {ls : am_Lc} {st : List am_AV} {mem : am_Mem} {idx p1 p2 p3 p4 a b na nb : Nat} {H : Heap} {locs : List Loc} {L : Array Slot} {sp dq n : Int}
    (hd : decode cc pc = .ok (.invokestatic idx, 3)) (h1 : am_isw p1 (.methodLink own idx arraycopyName) = true) (h2 : am_isw p2 (.native arraycopyName) = true) (h3 : am_isw p3 (.static arraycopyName) = true) (h4 : am_isw p4 (.initialized "java/lang/System") = true) (hdp : 0 < dp) (ha : am_SH a = some (.inl (false, na))) (hb : am_SH b = some (.inl (false, nb)))
    (hlen : st.length ≤ 4) (hsp : am_inR sp) (hdq : am_inR dq) (hn : am_inR n) (hc : 0 ≤ sp ∧ 0 ≤ dq ∧ 0 ≤ n ∧ sp + n ≤ na ∧ dq + n ≤ nb) (hP : va_P g.1 am_cls (am_wo g mem) H) (hS : va_S A s.heap H locs) (hl : lv_has L nL (am_lm g.2.1 ls))
    (kk : ∀ (H1 : Heap) (locs1 : List Loc), va_P g.1 am_cls (am_wo g (am_cp mem a sp.toNat b dq.toNat n.toNat)) H1 → va_S A s.heap H1 locs1 → W p l e R s m args below meth c H1 locs1 cells slots Qf (F0 m (pc + 3) L (st.map (am_vl g.2.1)))) : W p l e R s m args below meth c H locs cells slots Qf (F0 m pc L (.int (Int32.ofInt n) :: .int (Int32.ofInt dq) :: .ref (g.2.1 b) :: .int (Int32.ofInt sp) :: .ref (g.2.1 a) :: st.map (am_vl g.2.1))) := by
  obtain ⟨⟨hex, hbc, hml, hown, hts⟩, ⟨hfr, hlo, -, -⟩, hEnv, hA, hrom⟩ := hC
  obtain ⟨c1, c2, c3, c4, c5⟩ := hc
  have nn : ∀ {z : Int}, am_inR z → 0 ≤ z → ¬ Int32.ofInt z < 0 := fun {z} hz h0 => by rw [am_0, am_lt hz am_in0]; omega
  have hcat := am_cat g.2.1 st
  have hw := am_nfw
  refine va_copyi hex hbc (by rw [hml]; exact hl.1.symm) hown (hts _ (am_isw_mem h1)) (hts _ (am_isw_mem h2)) (hts _ (am_isw_mem h3)) (hts _ (am_isw_mem h4)) hEnv.1 hP (am_wo_D hEnv.2.2.1 hA mem) hS a b 0 0 (am_wo_get g mem ha) (am_wo_get g mem hb) am_tysI am_tysI rfl (nn hsp c1) (nn hdq c2) (nn hn c3) (by rw [am_clamp hsp c1, am_clamp hn c3]; omega) (by rw [am_clamp hdq c2, am_clamp hn c3]; omega) (fun i _ => rfl) (by omega) (by omega) hd (fun H1 locs1 hP1 hD1 hS1 => ?_)
  rw [am_clamp hsp c1, am_clamp hdq c2, am_clamp hn c3, am_arr_cp] at hP1
  have e := am_arr_set (g := g) (mem := mem) (mem' := am_cp mem a sp.toNat b dq.toNat n.toNat) hb rfl (fun k hk i => am_cp_ne hk)
  rw [e] at hP1
  exact kk H1 locs1 hP1 hS1
end STQ
