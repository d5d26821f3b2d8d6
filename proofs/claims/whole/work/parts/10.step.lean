section STP
variable {p : Program} {l : Launch} {e : Env} {R : Room} {s : State} {m : MethodId} {args : Array Value} {below : List Frame} {meth : Method} {c : Code} {cells slots : Nat} {Qf : State → Prop} {cc : ByteArray} {own : String} {nL dp : Nat} {g : am_G} {A : Nat → Prop} {rom : Nat → Option (Nat × (Nat → Int))} {rv rb : Bool} {Q : am_Po}
theorem am_e1 {pc npc k : Nat} (h : Nat.beq npc (pc + k) = true) {cc : ByteArray} {I : Instr} (hd : decode cc pc = .ok (I, npc - pc)) : npc = pc + k ∧ decode cc pc = .ok (I, k) := by
  have := am_beq h
  subst this
  rw [Nat.add_sub_cancel_left] at hd
  exact ⟨rfl, hd⟩
theorem am_brOK {c : Jvm.ClassFile.Cond} {x y : Int} {kt kf : Prop} (h : am_br c x y kt kf) : match c with
  | .eq => (x = y → kt) ∧ (¬ x = y → kf)
  | .ne => (¬ x = y → kt) ∧ (x = y → kf)
  | .lt => (x < y → kt) ∧ (y ≤ x → kf)
  | .ge => (y ≤ x → kt) ∧ (x < y → kf)
  | .gt => (y < x → kt) ∧ (x ≤ y → kf)
  | .le => (x ≤ y → kt) ∧ (y < x → kf) := by
  cases c <;> exact h
set_option maxHeartbeats 4000000 in
theorem am_step_br (hC : am_C p R s m args c cells slots cc own nL dp g A rom) {pc t : Nat} {ls : am_Lc} {st : List am_AV} {mem : am_Mem} {x y : Int} {cd : Jvm.ClassFile.Cond} {off : Int} (hx : am_inR x) (hy : am_inR y) (hd : decode cc pc = .ok (.if_icmp cd off, 3)) (ht : (pc : Int) + off = (t : Int)) {H : Heap} {locs : List Loc} {L : Array Slot}
    (h : am_br cd x y (W p l e R s m args below meth c H locs cells slots Qf (F0 m t L (st.map (am_vl g.2.1)))) (W p l e R s m args below meth c H locs cells slots Qf (F0 m (pc + 3) L (st.map (am_vl g.2.1))))) :
    W p l e R s m args below meth c H locs cells slots Qf (F0 m pc L (.int (Int32.ofInt y) :: .int (Int32.ofInt x) :: st.map (am_vl g.2.1))) := by
  obtain ⟨⟨hex, hb, hml, hown, hts⟩, -⟩ := hC
  have h := am_brOK h
  cases cd with
  | eq => exact lv_icmp_eq hex hb hd ht (fun z => h.1 ((am_eq hx hy).mp z)) (fun z => h.2 (fun w => z ((am_eq hx hy).mpr w)))
  | ne => exact lv_icmp_ne hex hb hd ht (fun z => h.1 (fun w => z ((am_eq hx hy).mpr w))) (fun z => h.2 ((am_eq hx hy).mp z))
  | lt => exact lv_icmp_lt hex hb hd ht (fun z => h.1 ((am_lt hx hy).mp z)) (fun z => h.2 (by rw [am_lt hx hy] at z; omega))
  | ge => exact lv_icmp_ge hex hb hd ht (fun z => h.1 ((am_le hy hx).mp z)) (fun z => h.2 (by rw [am_le hy hx] at z; omega))
  | gt => exact lv_icmp_gt hex hb hd ht (fun z => h.1 ((am_lt hy hx).mp z)) (fun z => h.2 (by rw [am_lt hy hx] at z; omega))
  | le => exact lv_icmp_le hex hb hd ht (fun z => h.1 ((am_le hx hy).mp z)) (fun z => h.2 (by rw [am_le hx hy] at z; omega))
set_option maxHeartbeats 4000000 in
theorem am_step_b0 (hC : am_C p R s m args c cells slots cc own nL dp g A rom) {pc t : Nat} {ls : am_Lc} {st : List am_AV} {mem : am_Mem} {x : Int} {cd : Jvm.ClassFile.Cond} {off : Int} (hx : am_inR x) (hd : decode cc pc = .ok (.ifCond cd off, 3)) (ht : (pc : Int) + off = (t : Int)) {H : Heap} {locs : List Loc} {L : Array Slot}
    (h : am_br cd x 0 (W p l e R s m args below meth c H locs cells slots Qf (F0 m t L (st.map (am_vl g.2.1)))) (W p l e R s m args below meth c H locs cells slots Qf (F0 m (pc + 3) L (st.map (am_vl g.2.1))))) :
    W p l e R s m args below meth c H locs cells slots Qf (F0 m pc L (.int (Int32.ofInt x) :: st.map (am_vl g.2.1))) := by
  obtain ⟨⟨hex, hb, hml, hown, hts⟩, -⟩ := hC
  have h := am_brOK h
  have e0 : Int32.ofInt x = 0 ↔ x = 0 := by rw [am_0, am_eq hx am_in0]
  have e1 : Int32.ofInt x < 0 ↔ x < 0 := by rw [am_0, am_lt hx am_in0]
  have e2 : 0 ≤ Int32.ofInt x ↔ 0 ≤ x := by rw [am_0, am_le am_in0 hx]
  have e3 : 0 < Int32.ofInt x ↔ 0 < x := by rw [am_0, am_lt am_in0 hx]
  have e4 : Int32.ofInt x ≤ 0 ↔ x ≤ 0 := by rw [am_0, am_le hx am_in0]
  cases cd with
  | eq => exact lv_if_eq hex hb hd ht (fun z => h.1 (e0.mp z)) (fun z => h.2 (fun w => z (e0.mpr w)))
  | ne => exact lv_if_ne hex hb hd ht (fun z => h.1 (fun w => z (e0.mpr w))) (fun z => h.2 (e0.mp z))
  | lt => exact lv_if_lt hex hb hd ht (fun z => h.1 (e1.mp z)) (fun z => h.2 (by rw [e1] at z; omega))
  | ge => exact lv_if_ge hex hb hd ht (fun z => h.1 (e2.mp z)) (fun z => h.2 (by rw [e2] at z; omega))
  | gt => exact lv_if_gt hex hb hd ht (fun z => h.1 (e3.mp z)) (fun z => h.2 (by rw [e3] at z; omega))
  | le => exact lv_if_le hex hb hd ht (fun z => h.1 (e4.mp z)) (fun z => h.2 (by rw [e4] at z; omega))
theorem am_br_map {c : Jvm.ClassFile.Cond} {x y : Int} {a b a' b' : Prop} (ha : a → a') (hb : b → b') (h : am_br c x y a b) : am_br c x y a' b' := by
  cases c <;> exact ⟨fun z => ha (h.1 z), fun z => hb (h.2 z)⟩
theorem am_tsw_ok {x : Int} {d : Prop} {k : Nat → Prop} : ∀ (ts : List Nat) (lo : Int), am_tsw x d k lo ts → (lo ≤ x → (x < lo + ts.length → ∃ t, ts[(x - lo).toNat]? = some t ∧ k t) ∧ (lo + ts.length ≤ x → d))
  | [], lo, h, hx => ⟨fun h1 => by simp at h1; omega, fun _ => h hx⟩
  | t :: r, lo, h, hx => by
    obtain ⟨h1, h2⟩ := h
    by_cases e : x = lo
    · subst e
      refine ⟨fun _ => ⟨t, by simp, h1 rfl⟩, fun h3 => ?_⟩
      simp only [List.length_cons] at h3
      omega
    · obtain ⟨g1, g2⟩ := am_tsw_ok r (lo + 1) h2 (by omega)
      simp only [List.length_cons]
      refine ⟨fun h3 => ?_, fun h3 => g2 (by omega)⟩
      obtain ⟨t', a, b⟩ := g1 (by omega)
      refine ⟨t', ?_, b⟩
      rw [show (x - lo).toNat = (x - (lo + 1)).toNat + 1 by omega]
      simpa using a
theorem am_lsw_ok {x : Int} {d : Prop} {k : Nat → Prop} {pc : Int} {dflt : Int} {dt : Nat} (hdt : pc + dflt = (dt : Int)) (hd : d → k dt) : ∀ (ps : List (Int × Int)) (ts : List Nat), ps.map (fun o => pc + o.2) = ts.map (fun t : Nat => (t : Int)) → am_lsw x d k ps ts → ∃ (off : Int) (t : Nat), Op.lookupswitch.offset ps dflt x = off ∧ pc + off = (t : Int) ∧ k t
  | [], [], _, h => ⟨dflt, dt, rfl, hdt, hd h⟩
  | [], _ :: _, h, _ => by simp at h
  | _ :: _, [], h, _ => by simp at h
  | (a, o) :: ps, t :: ts, h, h2 => by
    simp only [List.map_cons, List.cons.injEq] at h
    obtain ⟨h1, h3⟩ := h2
    by_cases e : x = a
    · exact ⟨o, t, by simp [Op.lookupswitch.offset, e], h.1, h1 e⟩
    · obtain ⟨off, t', g1, g2, g3⟩ := am_lsw_ok hdt hd ps ts h.2 (h3 e)
      exact ⟨off, t', by simp [Op.lookupswitch.offset, g1]; exact fun w => absurd w.symm e, g2, g3⟩
end STP
