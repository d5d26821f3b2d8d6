section SWP
variable {p : Program} {l : Launch} {e : Env} {R : Room} {s : State} {m : MethodId} {args : Array Value} {below : List Frame} {meth : Method} {c : Code} {cells slots : Nat} {Qf : State → Prop} {cc : ByteArray} {own : String} {nL dp : Nat} {g : am_G} {A : Nat → Prop} {rom : Nat → Option (Nat × (Nat → Int))} {rv rb : Bool} {Q : am_Po}
/-- from wp to the machine, with the cut places' goals given -/
theorem am_wp_J (hC : am_C p R s m args c cells slots cc own nL dp g A rom) (hret : am_Ret p l e R s m args below meth c cells slots Qf cc g A rv rb Q) {T : Nat → Option am_AE} (hT : ∀ pc ae, T pc = some ae → am_okE cc own nL dp rv pc ae = true) {cut : List (Nat × List Nat)} {K : Nat → List am_AV → am_Mem → Prop}
    (hK : ∀ pc keep vs mem, am_cget cut pc = some keep → K pc vs mem → am_J p l e R s m args below meth c cells slots Qf nL g A pc (keep.zip vs) [] mem) :
    ∀ (n pc : Nat) (ls : am_Lc) (st : List am_AV) (mem : am_Mem), am_wp am_SH rom (am_Mt l g) rb T cut K Q n pc ls st mem → am_J p l e R s m args below meth c cells slots Qf nL g A pc ls st mem
  | 0, pc, ls, st, mem, h => h.elim
  | n + 1, pc, ls, st, mem, h => by
    unfold am_wp at h
    match ht : T pc with
    | none => rw [ht] at h; exact h.elim
    | some ae =>
      rw [ht] at h
      refine am_step hC hret (hT pc ae ht) (fun pc' ls' st' mem' hk => ?_) h
      match hc : am_cget cut pc' with
      | none =>
        rw [hc] at hk
        exact am_wp_J hC hret hT hK n pc' ls' st' mem' hk
      | some keep =>
        rw [hc] at hk
        intro hol hos hom H locs L hP hS hl
        cases hkp : am_kp ls' keep with
        | none =>
          simp only [hkp] at hk
        | some vs =>
          simp only [hkp] at hk
          cases st' with
          | cons v r => exact hk.elim
          | nil =>
            obtain ⟨g1, g2⟩ := am_kp_ok hl hol hkp
            refine hK pc' keep vs mem' hc hk (fun q hq => ?_) hos hom H locs L hP hS g1
            exact g2 q.2 (List.of_mem_zip hq).2
end SWP
def am_rom0 (k : Nat) : Option (Nat × (Nat → Int)) := bif Nat.beq k 63 then some (9, am_least) else bif Nat.beq k 64 then some (9, am_most) else none
def am_isB (r : Option FieldType) : Bool := match r with
  | some .boolean => true
  | _ => false
/-- locals at the entry -/
def am_ent : Nat → List am_AV → am_Lc
  | _, [] => []
  | i, v :: r => (i, v) :: am_ent (i + 1) r
def am_noL (as : List am_AV) : Bool := as.all fun v => !am_isl v
theorem am_ent_args (ad : Nat → Nat) : ∀ (as : List am_AV) (i : Nat), am_noL as = true → lv_args i (as.map (am_vl ad)) = am_lm ad (am_ent i as)
  | [], i, _ => rfl
  | v :: r, i, h => by
    simp only [am_noL, List.all_cons, Bool.and_eq_true] at h
    have h1 : (am_vl ad v).category = 1 := am_isl_cat (by simpa using h.1)
    have := am_ent_args ad r (i + 1) (by simpa [am_noL] using h.2)
    simp only [List.map_cons, lv_args, am_ent, am_lm]
    rw [h1, if_neg (by omega), this]
theorem am_ent_len (ad : Nat → Nat) : ∀ (as : List am_AV), am_noL as = true → (lg_sl (as.map (am_vl ad))).length = as.length
  | [], _ => rfl
  | v :: r, h => by
    simp only [am_noL, List.all_cons, Bool.and_eq_true] at h
    have h1 : (am_vl ad v).category = 1 := am_isl_cat (by simpa using h.1)
    have := am_ent_len ad r (by simpa [am_noL] using h.2)
    simp only [List.map_cons, lg_sl, List.flatMap_cons, h1] at this ⊢
    simp [this]
theorem am_ent_ok : ∀ (as : List am_AV) (i : Nat), am_oks as → am_okl (am_ent i as)
  | [], i, _ => fun q hq => by simp [am_ent] at hq
  | v :: r, i, h => fun q hq => by
    rcases List.mem_cons.mp hq with rfl | hq
    · exact h _ List.mem_cons_self
    · exact am_ent_ok r (i + 1) (am_oks_tl h) q hq
def am_tok (cc : ByteArray) (own : String) (nL dp : Nat) (rv : Bool) (N : Nat) (T : Nat → Option am_AE) : Bool := (List.range N).all fun pc => match T pc with
  | some ae => am_okE cc own nL dp rv pc ae
  | none => true
/-- a table of a method, with places only below N -/
def am_tb (N : Nat) (T : Nat → Option am_AE) : Nat → Option am_AE := fun pc => bif Nat.blt pc N then T pc else none
theorem am_tok_ok {cc : ByteArray} {own : String} {nL dp : Nat} {rv : Bool} {N : Nat} {T : Nat → Option am_AE} (h : am_tok cc own nL dp rv N T = true) : ∀ pc ae, am_tb N T pc = some ae → am_okE cc own nL dp rv pc ae = true := by
  intro pc ae ha
  unfold am_tb at ha
  cases hb : Nat.blt pc N with
  | false => rw [hb] at ha; cases ha
  | true =>
    rw [hb] at ha
    have := List.all_eq_true.mp h pc (List.mem_range.mpr (am_blt hb))
    simp only [cond_true] at ha
    rw [ha] at this
    exact this
theorem am_ofW {l : Launch} {y : MethodName} {ws ws' : List Cond} {rm : Room} {Pc : Array Value → State → Prop} {Qc : Array Value → State → Outcome → State → Prop} {mc ms : Nat} {free : Addr → Prop} {cc : ByteArray} {maxL : Nat} {ret : Option FieldType}
    (hy : plainFor y = true) (hw : ws = Cond.code y cc maxL ret :: ws')
    (body : ∀ p e s m args below meth c s₁, BodyLoose p l y (headSpec ws rm) cc maxL ret e s m args below meth c s₁ → c.maxLocals = maxL → Pc args s →
      W p l e (headSpec ws rm).room s m args below meth c s.heap [] 0 0 (MQ below Qc args s mc ms free) (entryFrame m args maxL)) : Met l y ws rm Pc Qc mc ms free := by
  refine MetFree.of_bodySF (code := cc) (maxLocals := maxL) (ret := ret) hy ?_ ?_
  · intro args s m h hn
    obtain ⟨meth, c, h1, h2, h3, h4, h5, h6, -, -⟩ := Cond.code_spec hn (atoms_spec (ws := ws) h _ (by rw [hw]; exact List.mem_cons_self))
    exact ⟨meth, c, h1, h2, h3, h4, h5, h6⟩
  · intro p e s m args below meth c s₁ B hml hP _
    have hh0 : s₁.heap = s.heap := by rw [B.state]; rfl
    obtain ⟨t, a1, o, b1, b2, b3⟩ := body p e s m args below meth c s₁ B hml hP s₁ hh0 (Stand.of_body B)
    exact ⟨t, o, a1, b1, b2, ⟨b3.1, b3.2⟩⟩
/-- what is checked of a method as a whole -/
def am_mok (y N : Nat) (T : Nat → Option am_AE) : Bool := am_tok (am_mi y).2.1 (am_mi y).1.cls (am_mi y).2.2.1 (am_mi y).2.2.2.2.1 (am_isV (am_mi y).2.2.2.1) N T && plainFor (am_mi y).1 && decide ((am_mi y).2.2.2.1 = none ∨ (am_mi y).2.2.2.1 = some .int ∨ (am_mi y).2.2.2.1 = some .boolean)
set_option maxHeartbeats 4000000 in
/-- a contract out of wp: from the entry, and from every cut place, by a measure -/
theorem am_Mt_of {l : Launch} {g : am_G} {y N : Nat} {T : Nat → Option am_AE} (hok : am_mok y N T = true) (cut : List (Nat × List Nat)) (I : Nat → Nat → List am_AV → am_Mem → Prop) {as : List am_AV} {mem : am_Mem} {Q : am_Po} (hn : (am_noL as && Nat.ble as.length (am_mi y).2.2.1) = true) (n0 : Nat)
    (h0 : am_wp am_SH am_rom0 (am_Mt l g) (am_isB (am_mi y).2.2.2.1) (am_tb N T) cut (fun pc vs mem' => ∃ n, I pc n vs mem') Q n0 0 (am_ent 0 as) [] mem)
    (h1 : ∀ pc keep, am_cget cut pc = some keep → ∀ n vs mem', I pc n vs mem' → ∃ nn, am_wp am_SH am_rom0 (am_Mt l g) (am_isB (am_mi y).2.2.2.1) (am_tb N T) cut (fun pc' vs' mem'' => ∃ n', n' < n ∧ I pc' n' vs' mem'') Q nn pc (keep.zip vs) [] mem') : am_Mt l g y as mem Q := by
  intro hoa hom
  obtain ⟨hok, hty⟩ := am_and2 hok
  obtain ⟨hok, hpl⟩ := am_and2 hok
  obtain ⟨hn1, hn2⟩ := am_and2 hn
  refine am_ofW (cc := (am_mi y).2.1) (maxL := (am_mi y).2.2.1) (ret := (am_mi y).2.2.2.1) hpl rfl ?_
  intro p e s m args below meth c s₁ B hml hv
  obtain ⟨rfl, hP, hEnv⟩ := hv
  have hx := B.exec
  have hb := B.bytes
  have hr := B.returns
  have hlocks := B.notSynchronized
  have hts := atoms_spec (ws := Cond.code (am_mi y).1 (am_mi y).2.1 (am_mi y).2.2.1 (am_mi y).2.2.2.1 :: am_gt) B.pre
  have hown : s.vm.findClass (am_mi y).1.cls = some m.cls := findClass_of_methodNamed B.named
  have hC : am_C p (headSpec (Cond.code (am_mi y).1 (am_mi y).2.1 (am_mi y).2.2.1 (am_mi y).2.2.2.1 :: am_gt) (am_rmd (am_mi y).2.2.2.2.1)).room s m (as.map (am_vl g.2.1)).toArray c 0 0 (am_mi y).2.1 (am_mi y).1.cls (am_mi y).2.2.1 (am_mi y).2.2.2.2.1 g (am_A g) am_rom0 := by
    refine ⟨⟨hx, hb, hml, hown, fun w hw => hts w (List.mem_cons_of_mem _ hw)⟩, ⟨Nat.le_refl _, Nat.le_refl _, Nat.zero_le _, Nat.zero_le _⟩, hEnv, fun k hk => ⟨k, hk, rfl⟩, fun k n f hf => ?_⟩
    unfold am_rom0 at hf
    cases h63 : Nat.beq k 63 with
    | true =>
      rw [h63] at hf
      cases hf
      have := am_beq h63
      subst this
      refine ⟨hEnv.2.2.2.1.1, hEnv.2.2.2.1.2.1, by omega, fun j => ?_⟩
      have hall : ∀ z ∈ ([1, 1, 0, 0, 0, 0, 1, 10, 0] : List Int), am_inRb z = true := by decide +kernel
      unfold am_least
      rw [List.getD_eq_getElem?_getD]
      cases hj : ([1, 1, 0, 0, 0, 0, 1, 10, 0] : List Int)[j]? with
      | none => exact am_in0
      | some z => exact am_inRb_ok (hall z (List.mem_of_getElem? hj))
    | false =>
      rw [h63] at hf
      simp only [cond_false] at hf
      cases h64 : Nat.beq k 64 with
      | true =>
        rw [h64] at hf
        cases hf
        have := am_beq h64
        subst this
        refine ⟨hEnv.2.2.2.2.1, hEnv.2.2.2.2.2.1, by omega, fun j => ?_⟩
        have hall : ∀ z ∈ ([99, 40, 999, 3, 99, 9, 20, 70, 30] : List Int), am_inRb z = true := by decide +kernel
        unfold am_most
        rw [List.getD_eq_getElem?_getD]
        cases hj : ([99, 40, 999, 3, 99, 9, 20, 70, 30] : List Int)[j]? with
        | none => exact am_in0
        | some z => exact am_inRb_ok (hall z (List.mem_of_getElem? hj))
      | false => rw [h64] at hf; cases hf
  have hret : am_Ret p l e (headSpec (Cond.code (am_mi y).1 (am_mi y).2.1 (am_mi y).2.2.1 (am_mi y).2.2.2.1 :: am_gt) (am_rmd (am_mi y).2.2.2.2.1)).room s m (as.map (am_vl g.2.1)).toArray below meth c 0 0 (MQ below (am_Qc g (am_isV (am_mi y).2.2.2.1) Q) (as.map (am_vl g.2.1)).toArray s 0 0 (am_A g)) (am_mi y).2.1 g (am_A g) (am_isV (am_mi y).2.2.2.1) (am_isB (am_mi y).2.2.2.1) Q := by
    have hty := of_decide_eq_true hty
    refine ⟨fun pc z mem' H locs L hrv hd hq hz01 hz hm' hP' hS' => ?_, fun pc mem' H locs L hrv hd hq hm' hP' hS' => ?_⟩
    · have hpost : ∀ t : State, t.heap = H → s.WarmedH t.vm → am_Qc g (am_isV (am_mi y).2.2.2.1) Q (as.map (am_vl g.2.1)).toArray s (.returned (some (.int (Int32.ofInt z)))) t := fun t ht _ => ⟨⟨z, mem', by rw [hrv]; rfl, hq, hz, hm', by rw [ht]; exact hP'⟩, hS'.F ht⟩
      rcases hty with h | h | h
      · rw [h] at hrv; cases hrv
      · exact W.iret hx hb (by rw [hr, h]) hpost hS'.2.2 hd
      · refine W.zret (ty := .boolean) hx hb (by rw [hr, h]) ?_ hpost hS'.2.2 hd
        have := hz01 (by rw [h]; rfl)
        rcases this with rfl | rfl <;> decide +kernel
    · have hpost : ∀ t : State, t.heap = H → s.WarmedH t.vm → am_Qc g (am_isV (am_mi y).2.2.2.1) Q (as.map (am_vl g.2.1)).toArray s (.returned none) t := fun t ht _ => ⟨⟨0, mem', by rw [hrv]; rfl, hq, am_in0, hm', by rw [ht]; exact hP'⟩, hS'.F ht⟩
      refine W.vret hx hb ?_ hpost hS'.2.2 hd
      rw [hr]
      rcases hty with h | h | h
      · exact h
      · rw [h] at hrv; cases hrv
      · rw [h] at hrv; cases hrv
  have hT := am_tok_ok hok
  have key : ∀ (n pc : Nat) (keep : List Nat) (vs : List am_AV) (mem' : am_Mem), am_cget cut pc = some keep → I pc n vs mem' → am_J p l e (headSpec (Cond.code (am_mi y).1 (am_mi y).2.1 (am_mi y).2.2.1 (am_mi y).2.2.2.1 :: am_gt) (am_rmd (am_mi y).2.2.2.2.1)).room s m (as.map (am_vl g.2.1)).toArray below meth c 0 0 (MQ below (am_Qc g (am_isV (am_mi y).2.2.2.1) Q) (as.map (am_vl g.2.1)).toArray s 0 0 (am_A g)) (am_mi y).2.2.1 g (am_A g) pc (keep.zip vs) [] mem' := by
    intro n
    induction n using Nat.strongRecOn with
    | ind n ih =>
      intro pc keep vs mem' hc hI
      obtain ⟨nn, hw⟩ := h1 pc keep hc n vs mem' hI
      exact am_wp_J hC hret hT (fun pc' keep' vs' mem'' hc' ⟨n', hlt, hI'⟩ => ih n' hlt pc' keep' vs' mem'' hc' hI') nn pc _ [] mem' hw
  have hl := lv_entry (as.map (am_vl g.2.1)) (n := (am_mi y).2.2.1) (by rw [am_ent_len g.2.1 as hn1]; exact am_ble hn2)
  rw [lg_entry_eq]
  generalize (lg_sl (as.map (am_vl g.2.1)) ++ List.replicate ((am_mi y).2.2.1 - (lg_sl (as.map (am_vl g.2.1))).length) Slot.unset).toArray = L at hl ⊢
  rw [am_ent_args g.2.1 as 0 hn1] at hl
  exact am_wp_J hC hret hT (fun pc keep vs mem' hc ⟨n, hI⟩ => key n pc keep vs mem' hc hI) n0 0 _ [] mem h0 (am_ent_ok as 0 hoa) (fun _ h => by simp at h) hom s.heap [] L hP va_S.rf hl
