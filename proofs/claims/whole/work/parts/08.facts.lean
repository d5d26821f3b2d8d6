/-! facts of the classes, by the kernel -/
def am_ty (ci : Nat) : Nat → FieldType := match ci with
  | 0 => tyX0 | 1 => tyX1 | 2 => tyX2 | 3 => tyX3 | 4 => tyX4 | 5 => tyX5 | 6 => tyX6 | 7 => tyX7 | 8 => tyX8 | 9 => tyX9 | _ => tyX10
theorem am_cls_ty : ∀ (ci : Nat) (q : vw_C), am_cls[ci]? = some q → ∀ k, k < q.2.2 → parseFieldDescriptor (q.2.1 k).2.2.1 = some (am_ty ci k)
  | 0, q, h => by cases h; exact tyX0_ok
  | 1, q, h => by cases h; exact tyX1_ok
  | 2, q, h => by cases h; exact tyX2_ok
  | 3, q, h => by cases h; exact tyX3_ok
  | 4, q, h => by cases h; exact tyX4_ok
  | 5, q, h => by cases h; exact tyX5_ok
  | 6, q, h => by cases h; exact tyX6_ok
  | 7, q, h => by cases h; exact tyX7_ok
  | 8, q, h => by cases h; exact tyX8_ok
  | 9, q, h => by cases h; exact tyX9_ok
  | 10, q, h => by cases h; exact tyX10_ok
  | n + 11, q, h => by simp [am_cls] at h
theorem am_cls_nm : ∀ (ci : Nat) (q : vw_C), am_cls[ci]? = some q → ∀ a, a < q.2.2 → ∀ b, b < q.2.2 → a ≠ b → (q.2.1 a).2.1 ≠ (q.2.1 b).2.1
  | 0, q, h => by cases h; exact nmX0
  | 1, q, h => by cases h; exact nmX1
  | 2, q, h => by cases h; exact nmX2
  | 3, q, h => by cases h; exact nmX3
  | 4, q, h => by cases h; exact nmX4
  | 5, q, h => by cases h; exact nmX5
  | 6, q, h => by cases h; exact nmX6
  | 7, q, h => by cases h; exact nmX7
  | 8, q, h => by cases h; exact nmX8
  | 9, q, h => by cases h; exact nmX9
  | 10, q, h => by cases h; exact nmX10
  | n + 11, q, h => by simp [am_cls] at h
def am_layp : List (List Nat) := [[285, 287, 289], [225, 227, 229], [244, 246, 248], [198, 200, 202, 204, 206, 208, 210, 212], [130, 132, 134, 136, 138, 140, 142, 144, 146, 148, 150, 152], [162, 164, 166, 168], [313, 315, 317, 319, 321, 323, 325, 327, 329, 331], [264, 266, 268, 270, 272], [73, 75], [345, 347, 349, 351, 353, 355, 357, 359, 361, 363, 365], [834, 836, 838, 840, 842, 844, 846, 848, 850, 852, 854, 856, 858, 860, 862, 864, 866, 868, 870, 872, 874, 876, 878, 880, 882, 884, 886, 888, 890, 892, 894, 896, 898, 900, 902, 904]]
def am_layok (q : vw_C) (ps : List Nat) : Bool := decide ((u_ws q.1 q.2.1 q.2.2).map some = ps.map (fun i => lw_tbl[i]?)) && (u_ws q.1 q.2.1 q.2.2).all goodWord
theorem am_lay_all : (am_cls.zip am_layp).all (fun q => am_layok q.1 q.2) = true := by decide +kernel
theorem am_lay_len : am_layp.length = 11 := by decide +kernel
theorem am_lays : ∀ (ci : Nat) (q : vw_C), am_cls[ci]? = some q → ∀ w ∈ u_ws q.1 q.2.1 q.2.2, w ∈ am_gt := by
  intro ci q h w hw
  have hl : ci < 11 := (List.getElem?_eq_some_iff.mp h).1
  obtain ⟨ps, hp⟩ : ∃ ps, am_layp[ci]? = some ps := ⟨am_layp[ci]'(by rw [am_lay_len]; exact hl), List.getElem?_eq_getElem _⟩
  have hz : (am_cls.zip am_layp)[ci]? = some (q, ps) := by
    rw [List.getElem?_zip_eq_some]
    exact ⟨h, hp⟩
  have := List.all_eq_true.mp am_lay_all _ (List.mem_of_getElem? hz)
  obtain ⟨h1, h2⟩ := am_and2 this
  have h1 := of_decide_eq_true h1
  have hm : some w ∈ ps.map (fun i => lw_tbl[i]?) := by
    rw [← h1]; exact List.mem_map.mpr ⟨w, hw, rfl⟩
  obtain ⟨i, -, hi⟩ := List.mem_map.mp hm
  exact List.mem_filter.mpr ⟨List.mem_of_getElem? hi, List.all_eq_true.mp h2 w hw⟩
/-- the shape's kinds of fields are those of the classes -/
def am_shk (c : am_SC) : Bool := match c with
  | .inl q => Nat.ble q.2 100000
  | .inr (ci, fks) => match am_cls[ci]? with
    | some q => Nat.beq fks.length q.2.2 && (fks.zip (List.range q.2.2)).all (fun x => match x.1 with
      | 0 => decide ((q.2.1 x.2).2.2.1 = "I")
      | 1 => decide ((q.2.1 x.2).2.2.1 = "Z")
      | _ => true)
    | none => false
theorem am_sh_all : am_SHL.all am_shk = true := by decide +kernel
theorem am_sh_arr {a n : Nat} {z : Bool} (h : am_SH a = some (.inl (z, n))) : n ≤ 100000 := am_ble (List.all_eq_true.mp am_sh_all _ (List.mem_of_getElem? h))
theorem am_sh_obj {a ci : Nat} {fks : List Nat} (h : am_SH a = some (.inr (ci, fks))) : ∃ q, am_cls[ci]? = some q ∧ fks.length = q.2.2 ∧ (∀ j, fks[j]? = some 0 → (q.2.1 j).2.2.1 = "I") ∧ (∀ j, fks[j]? = some 1 → (q.2.1 j).2.2.1 = "Z") := by
  have h0 := List.all_eq_true.mp am_sh_all _ (List.mem_of_getElem? h)
  unfold am_shk at h0
  cases hc : am_cls[ci]? with
  | none => simp [hc] at h0
  | some q =>
    simp only [hc] at h0
    obtain ⟨h1, h2⟩ := am_and2 h0
    have h1 := am_beq h1
    have key : ∀ j f, fks[j]? = some f → (match f with
      | 0 => decide ((q.2.1 j).2.2.1 = "I")
      | 1 => decide ((q.2.1 j).2.2.1 = "Z")
      | _ => true) = true := by
      intro j f hj
      have hl : j < fks.length := (List.getElem?_eq_some_iff.mp hj).1
      have hz : (fks.zip (List.range q.2.2))[j]? = some (f, j) := by
        rw [List.getElem?_zip_eq_some]
        exact ⟨hj, by rw [List.getElem?_range (by omega)]⟩
      exact List.all_eq_true.mp h2 _ (List.mem_of_getElem? hz)
    exact ⟨q, rfl, h1, fun j hj => of_decide_eq_true (key j 0 hj), fun j hj => of_decide_eq_true (key j 1 hj)⟩
