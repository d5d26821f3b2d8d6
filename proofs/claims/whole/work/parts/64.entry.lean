/-! what holds at the law's entry: classes, array classes, static arrays -/
def st_instp : List Nat := [276, 216, 233, 174, 86, 80, 293, 253, 64, 56, 793]
theorem st_inst_all : (am_cls.zip st_instp).all (fun q => am_isw q.2 (.instantiable q.1.1 q.1.2.2)) = true := by decide +kernel
theorem st_inst : ∀ (ci : Nat) (q : vw_C), am_cls[ci]? = some q → Cond.instantiable q.1 q.2.2 ∈ am_gt := by
  intro ci q h
  have hl : ci < 11 := (List.getElem?_eq_some_iff.mp h).1
  have h11 : st_instp.length = 11 := by decide +kernel
  obtain ⟨pl, hp⟩ : ∃ pl, st_instp[ci]? = some pl := ⟨st_instp[ci]'(by rw [h11]; exact hl), List.getElem?_eq_getElem _⟩
  have hz : (am_cls.zip st_instp)[ci]? = some (q, pl) := by
    rw [List.getElem?_zip_eq_some]
    exact ⟨h, hp⟩
  exact am_isw_mem (List.all_eq_true.mp st_inst_all _ (List.mem_of_getElem? hz))
theorem st_known {args : Array Value} {s : State} (c0 : ClassId) (hts : ∀ w ∈ am_gt, w.before args s = true) : ∃ D : va_G, ∀ (k : Nat) (q : vw_C), am_cls[k]? = some q → u_Kn s q.1 q.2.1 q.2.2 (D.1 k) (D.2 k) := by
  have h : ∀ k : Nat, ∃ r : ClassId × (Nat → Nat), ∀ q, am_cls[k]? = some q → u_Kn s q.1 q.2.1 q.2.2 r.1 r.2 := fun k => by
    cases hc : am_cls[k]? with
    | none => exact ⟨(c0, fun _ => 0), fun q hq => by cases hq⟩
    | some q =>
      obtain ⟨cC, iS, hK⟩ := u_known (C := q.1) (T := q.2.1) (N := q.2.2) (n := q.2.2) hts (am_lays k q hc) (hts _ (st_inst k q hc))
      exact ⟨(cC, iS), fun q' hq => by cases hq; exact hK⟩
  exact ⟨(fun k => (h k).choose.1, fun k => (h k).choose.2), fun k q hq => (h k).choose_spec q hq⟩
theorem st_acI {args : Array Value} {s : State} (h : (Cond.arrayClass .int).before args s = true) : ∃ c, ArrOfT s c .int ∧ va_RA s c .int := by
  obtain ⟨c, k, comp, h1, h2, h3⟩ := Cond.arrayClass_spec h
  exact ⟨c, fun n z => ⟨fun k h => (by cases h), k, h2, comp, h3⟩, h1⟩
theorem st_acB {args : Array Value} {s : State} (h : (Cond.arrayClass .boolean).before args s = true) : ∃ c, ArrOfT s c .boolean ∧ va_RA s c .boolean := by
  obtain ⟨c, k, comp, h1, h2, h3⟩ := Cond.arrayClass_spec h
  exact ⟨c, fun n z => ⟨fun k h => (by cases h), k, h2, comp, h3⟩, h1⟩
theorem st_eq {args : Array Value} {s : State} {t : Term} {z : Int32} (h : (Cond.eq t (.int z)).before args s = true) : t.eval args s none [] s = some (.int z) := by
  cases hv : t.eval args s none [] s with
  | none => simp [Cond.before, Cond.holds, Cond.value, hv] at h
  | some w =>
    have hz : (Term.int z).eval args s none [] s = some (.int z) := rfl
    simp only [Cond.before, Cond.holds, Cond.value, hv, hz] at h
    cases w <;> simp_all
theorem st_arr {args : Array Value} {s : State} {t : Term} {f : Nat → Int} (hlen : (Cond.eq (.length t) (.int 9)).before args s = true) (harr : (Cond.arrayOf t .int).before args s = true) (he : ∀ j, j < 9 → (Cond.eq (.elem t (.int (Int32.ofNat j))) (.int (Int32.ofInt (f j)))).before args s = true) : ∃ a, t.eval args s none [] s = some (.ref a) ∧ va_X a 9 (am_ofI f) s s.heap := by
  have h1 := st_eq hlen
  obtain ⟨a, cell, ht, hat, hv⟩ := Term.length_spec h1
  have hsz : cell.slots.size < 2 ^ 31 := by
    simp only [Term.eval, ht, hat, Option.bind_eq_bind, Option.bind_some] at h1
    by_cases hlt : cell.slots.size < 2147483648
    · exact hlt
    · simp [hlt] at h1
  obtain ⟨hcell, hkn, -, -⟩ := State.arrayAt?_spec hat
  have hof := (Cond.arrayOf_spec harr ht hcell).1
  have h9 : cell.slots.size = 9 := by
    have e : (9 : Int32) = Int32.ofNat cell.slots.size := Value.int.inj hv
    have e2 := congrArg Int32.toInt e
    rw [Int32.toInt_ofNat_small hsz, show (9 : Int32).toInt = 9 by decide +kernel] at e2
    omega
  refine ⟨a, ht, cell, hcell, hof, hkn, h9, fun j hj => ?_⟩
  obtain ⟨a', jj, cell', ht', hj', hat', -, hs⟩ := Term.elem_spec (st_eq (he j hj))
  cases ht.symm.trans ht'
  cases hat.symm.trans hat'
  have hjj : jj = Int32.ofNat j := by cases hj'; rfl
  subst hjj
  have hnat : (Int32.ofNat j).toNatClampNeg = j := by
    show (Int32.ofNat j).toInt.toNat = j
    rw [Int32.toInt_ofNat_small (by omega)]; rfl
  rw [hnat] at hs
  exact hs
theorem st_least : ∀ j, j < 9 → Cond.eq (.elem (.static "RoofMattress$Reader" "LEAST" "[I") (.int (Int32.ofNat j))) (.int (Int32.ofInt (am_least j))) ∈ flatC (Jvm.Cond.and given_1 narrow_1) := by decide +kernel
theorem st_most : ∀ j, j < 9 → Cond.eq (.elem (.static "RoofMattress$Reader" "MOST" "[I") (.int (Int32.ofNat j))) (.int (Int32.ofInt (am_most j))) ∈ flatC (Jvm.Cond.and given_1 narrow_1) := by decide +kernel
