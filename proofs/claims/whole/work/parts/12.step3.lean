section STR
variable {p : Program} {l : Launch} {e : Env} {R : Room} {s : State} {m : MethodId} {args : Array Value} {below : List Frame} {meth : Method} {c : Code} {cells slots : Nat} {Qf : State → Prop} {cc : ByteArray} {own : String} {nL dp : Nat} {g : am_G} {A : Nat → Prop} {rom : Nat → Option (Nat × (Nat → Int))} {rv rb : Bool} {Q : am_Po}
set_option maxHeartbeats 8000000 in
theorem am_step (hC : am_C p R s m args c cells slots cc own nL dp g A rom) (hret : am_Ret p l e R s m args below meth c cells slots Qf cc g A rv rb Q) {pc : Nat} {ae : am_AE} (hE : am_okE cc own nL dp rv pc ae = true) {k : Nat → am_Lc → List am_AV → am_Mem → Prop} (hk : am_Kk p l e R s m args below meth c cells slots Qf nL g A k)
    {ls : am_Lc} {st : List am_AV} {mem : am_Mem} (h : am_stp am_SH rom (am_Mt l g) rb ae ls st mem k Q) : am_J p l e R s m args below meth c cells slots Qf nL g A pc ls st mem := by
  intro hol hos hom H locs L hP hS hl
  have hC0 := hC
  obtain ⟨⟨hex, hb, hml, hown, hts⟩, ⟨hfr, hlo, hce, hsl⟩, hEnv, hA, hrom⟩ := hC
  obtain ⟨hd, hI⟩ := am_and2 hE
  have hd := of_decide_eq_true hd
  obtain ⟨I, npc, tgts, cst, res⟩ := ae
  have hD : va_D A (am_wo g mem) := am_wo_D hEnv.2.2.1 hA mem
  cases I with
  | iconst n =>
    obtain ⟨h1, h2⟩ := am_and2 hI
    obtain ⟨rfl, hd⟩ := am_e1 h2 hd
    exact lv_iconst hex hb hd rfl (hk _ _ _ _ h hol (am_oks_cons (am_inRb_ok h1) hos) hom H locs L hP hS hl)
  | bipush n =>
    obtain ⟨h1, h2⟩ := am_and2 hI
    obtain ⟨h1, h3⟩ := am_and2 h1
    obtain ⟨rfl, hd⟩ := am_e1 h2 hd
    exact lv_bipush hex hb hd (of_decide_eq_true h3) (hk _ _ _ _ h hol (am_oks_cons (am_inRb_ok h1) hos) hom H locs L hP hS hl)
  | sipush n =>
    obtain ⟨h1, h2⟩ := am_and2 hI
    obtain ⟨h1, h3⟩ := am_and2 h1
    obtain ⟨rfl, hd⟩ := am_e1 h2 hd
    exact lv_sipush hex hb hd (of_decide_eq_true h3) (hk _ _ _ _ h hol (am_oks_cons (am_inRb_ok h1) hos) hom H locs L hP hS hl)
  | ldc idx =>
    obtain ⟨h1, h3⟩ := am_and2 hI
    obtain ⟨h1, h2⟩ := am_and2 h1
    obtain ⟨rfl, hd⟩ := am_e1 h2 hd
    match res, h, h3 with
    | pl :: _, h, h3 => exact lv_ldc hex hb hown (hts _ (am_isw_mem h3)) hd (hk _ _ _ _ h hol (am_oks_cons (am_inRb_ok h1) hos) hom H locs L hP hS hl)
    | [], h, h3 => cases h3
  | ldc_w idx =>
    obtain ⟨h1, h3⟩ := am_and2 hI
    obtain ⟨h1, h2⟩ := am_and2 h1
    obtain ⟨rfl, hd⟩ := am_e1 h2 hd
    match res, h, h3 with
    | pl :: _, h, h3 => exact lv_ldcw hex hb hown (hts _ (am_isw_mem h3)) hd (hk _ _ _ _ h hol (am_oks_cons (am_inRb_ok h1) hos) hom H locs L hP hS hl)
    | [], h, h3 => cases h3
  | ldc2_w idx =>
    obtain ⟨h1, h3⟩ := am_and2 hI
    obtain ⟨h1, h2⟩ := am_and2 h1
    obtain ⟨rfl, hd⟩ := am_e1 h2 hd
    match res, h, h3 with
    | pl :: _, h, h3 => exact lv_ldc2 hex hb hown (hts _ (am_isw_mem h3)) hd (hk _ _ _ _ h hol (am_oks_cons (am_inLb_ok h1) hos) hom H locs L hP hS hl)
    | [], h, h3 => cases h3
  | iload i =>
    obtain ⟨rfl, hd⟩ := am_e1 hI hd
    obtain ⟨z, hz, h⟩ := am_o1_ok h
    exact lv_iload hex hb hd (am_has_get hl hz) (hk _ _ _ _ h hol (am_oks_cons (hol _ (am_lget_mem hz)) hos) hom H locs L hP hS hl)
  | iload_n i =>
    obtain ⟨rfl, hd⟩ := am_e1 hI hd
    obtain ⟨z, hz, h⟩ := am_o1_ok h
    exact lv_iload_n hex hb hd rfl (am_has_get hl hz) (hk _ _ _ _ h hol (am_oks_cons (hol _ (am_lget_mem hz)) hos) hom H locs L hP hS hl)
  | aload i =>
    obtain ⟨rfl, hd⟩ := am_e1 hI hd
    obtain ⟨z, hz, h⟩ := am_oa_ok h
    exact lv_aload hex hb hd (am_has_get hl hz) (hk _ _ _ _ h hol (am_oks_cons trivial hos) hom H locs L hP hS hl)
  | aload_n i =>
    obtain ⟨rfl, hd⟩ := am_e1 hI hd
    obtain ⟨z, hz, h⟩ := am_oa_ok h
    exact lv_aload_n hex hb hd rfl (am_has_get hl hz) (hk _ _ _ _ h hol (am_oks_cons trivial hos) hom H locs L hP hS hl)
  | lload_n i =>
    obtain ⟨rfl, hd⟩ := am_e1 hI hd
    obtain ⟨z, hz, h⟩ := am_ol_ok h
    exact lv_lload_n hex hb hd rfl (am_has_get hl hz) (hk _ _ _ _ h hol (am_oks_cons (hol _ (am_lget_mem hz)) hos) hom H locs L hP hS hl)
  | istore i =>
    obtain ⟨h1, h2⟩ := am_and2 hI
    obtain ⟨rfl, hd⟩ := am_e1 h2 hd
    obtain ⟨x, r, rfl, hN⟩ := am_s1_ok h; clear h; have h := hN; clear hN
    exact lv_istore hex hb hd hl (am_blt h1) rfl (fun L' hl' => hk _ _ _ _ h (am_okl_del hol (hos _ List.mem_cons_self)) (am_oks_tl hos) hom H locs L' hP hS (am_has_del (v := .inl x) hl'))
  | istore_n i =>
    obtain ⟨h1, h2⟩ := am_and2 hI
    obtain ⟨rfl, hd⟩ := am_e1 h2 hd
    obtain ⟨x, r, rfl, hN⟩ := am_s1_ok h; clear h; have h := hN; clear hN
    exact lv_istore_n hex hb hd rfl hl (am_blt h1) rfl (fun L' hl' => hk _ _ _ _ h (am_okl_del hol (hos _ List.mem_cons_self)) (am_oks_tl hos) hom H locs L' hP hS (am_has_del (v := .inl x) hl'))
  | astore_n i =>
    obtain ⟨h1, h2⟩ := am_and2 hI
    obtain ⟨rfl, hd⟩ := am_e1 h2 hd
    obtain ⟨x, r, rfl, hN⟩ := am_sr_ok h; clear h; have h := hN; clear hN
    exact lv_astore_n hex hb hd rfl hl (am_blt h1) rfl (fun L' hl' => hk _ _ _ _ h (am_okl_del hol trivial) (am_oks_tl hos) hom H locs L' hP hS (am_has_del (v := .inr (.inl x)) hl'))
  | lstore_n i =>
    obtain ⟨h1, h2⟩ := am_and2 hI
    obtain ⟨rfl, hd⟩ := am_e1 h2 hd
    obtain ⟨x, r, rfl, hN⟩ := am_sl_ok h; clear h; have h := hN; clear hN
    exact lv_lstore_n hex hb hd rfl hl (am_blt h1) rfl (fun L' hl' => hk _ _ _ _ h (am_okl_de2 hol (hos _ List.mem_cons_self)) (am_oks_tl hos) hom H locs L' hP hS (am_has_de2 (v := .inr (.inr x)) hl'))
  | iinc i n =>
    obtain ⟨h1, h2⟩ := am_and2 hI
    obtain ⟨rfl, hd⟩ := am_e1 h2 hd
    obtain ⟨z, hz, h3, h⟩ := am_o1_ok h
    obtain ⟨kk, hkk⟩ := List.getElem?_of_mem (List.mem_map.mpr ⟨(i, .inl z), am_lget_mem hz, rfl⟩ : (i, am_vl g.2.1 (.inl z)) ∈ am_lm g.2.1 ls)
    exact lv_iinc (v := Int32.ofInt (z + n)) hex hb hd hl hkk (by rw [Int32.ofInt_add]) (am_blt h1) rfl (fun L' hl' => hk _ _ _ _ h (am_okl_del hol h3) hos hom H locs L' hP hS (am_has_del (v := .inl (z + n)) hl'))
  | iadd =>
    obtain ⟨rfl, hd⟩ := am_e1 hI hd
    obtain ⟨y, r, rfl, hN⟩ := am_s1_ok h; clear h; have h := hN; clear hN
    obtain ⟨x, r, rfl, h1, hN⟩ := am_s1_ok h; clear h; have h := hN; clear hN
    refine lv_iadd hex hb hd ?_
    rw [← Int32.ofInt_add]
    exact hk _ _ _ _ h hol (am_oks_cons h1 (am_oks_tl (am_oks_tl hos))) hom H locs L hP hS hl
  | isub =>
    obtain ⟨rfl, hd⟩ := am_e1 hI hd
    obtain ⟨y, r, rfl, hN⟩ := am_s1_ok h; clear h; have h := hN; clear hN
    obtain ⟨x, r, rfl, h1, hN⟩ := am_s1_ok h; clear h; have h := hN; clear hN
    refine lv_isub hex hb hd ?_
    rw [← Int32.ofInt_sub]
    exact hk _ _ _ _ h hol (am_oks_cons h1 (am_oks_tl (am_oks_tl hos))) hom H locs L hP hS hl
  | imul =>
    obtain ⟨rfl, hd⟩ := am_e1 hI hd
    obtain ⟨y, r, rfl, hN⟩ := am_s1_ok h; clear h; have h := hN; clear hN
    obtain ⟨x, r, rfl, h1, hN⟩ := am_s1_ok h; clear h; have h := hN; clear hN
    refine lv_imul hex hb hd ?_
    rw [← Int32.ofInt_mul]
    exact hk _ _ _ _ h hol (am_oks_cons h1 (am_oks_tl (am_oks_tl hos))) hom H locs L hP hS hl
  | idiv =>
    obtain ⟨rfl, hd⟩ := am_e1 hI hd
    obtain ⟨y, r, rfl, hN⟩ := am_s1_ok h; clear h; have h := hN; clear hN
    obtain ⟨x, r, rfl, ⟨h1, h2⟩, hN⟩ := am_s1_ok h; clear h; have h := hN; clear hN
    have hy : am_inR y := hos _ List.mem_cons_self
    have hx : am_inR x := am_oks_tl hos _ List.mem_cons_self
    refine lv_idiv hex hb hd (am_ne0 hy h2) ?_
    rw [am_div hx hy h1 h2]
    exact hk _ _ _ _ h hol (am_oks_cons (am_divR hx h1 h2) (am_oks_tl (am_oks_tl hos))) hom H locs L hP hS hl
  | irem =>
    obtain ⟨rfl, hd⟩ := am_e1 hI hd
    obtain ⟨y, r, rfl, hN⟩ := am_s1_ok h; clear h; have h := hN; clear hN
    obtain ⟨x, r, rfl, h2, h3, h4⟩ := am_s1_ok h
    have hy : am_inR y := hos _ List.mem_cons_self
    have hx : am_inR x := am_oks_tl hos _ List.mem_cons_self
    refine lv_irem hex hb hd (am_ne0 hy h2) ?_
    by_cases h0 : 0 ≤ x
    · rw [am_rem hx hy h0 h2]
      exact hk _ _ _ _ (h3 h0) hol (am_oks_cons (am_modR hy h2) (am_oks_tl (am_oks_tl hos))) hom H locs L hP hS hl
    · have h0 : x < 0 := by omega
      rw [am_rem2 hx hy h0 h2]
      have hm : am_inR (-((-x) % y)) := by
        have h5 := Int.emod_nonneg (-x) (show y ≠ 0 by omega)
        have h6 := Int.emod_lt_of_pos (-x) h2
        have := hy.2
        exact ⟨by omega, by omega⟩
      exact hk _ _ _ _ (h4 h0) hol (am_oks_cons hm (am_oks_tl (am_oks_tl hos))) hom H locs L hP hS hl
  | iand =>
    obtain ⟨rfl, hd⟩ := am_e1 hI hd
    obtain ⟨y, r, rfl, hN⟩ := am_s1_ok h; clear h; have h := hN; clear hN
    obtain ⟨x, r, rfl, h1, hN⟩ := am_s1_ok h; clear h; have h := hN; clear hN
    have hx : am_inR x := am_oks_tl hos _ List.mem_cons_self
    refine lv_iand hex hb hd ?_
    rw [am_and hx h1]
    exact hk _ _ _ _ h hol (am_oks_cons (am_andR x h1) (am_oks_tl (am_oks_tl hos))) hom H locs L hP hS hl
  | ixor =>
    obtain ⟨rfl, hd⟩ := am_e1 hI hd
    obtain ⟨y, r, rfl, hN⟩ := am_s1_ok h; clear h; have h := hN; clear hN
    obtain ⟨x, r, rfl, hN⟩ := am_s1_ok h; clear h; have h := hN; clear hN
    have hy : am_inR y := hos _ List.mem_cons_self
    have hx : am_inR x := am_oks_tl hos _ List.mem_cons_self
    obtain ⟨z, z1, z2, z3⟩ := am_xor hx hy
    refine lv_ixor hex hb hd ?_
    rw [z2]
    exact hk _ _ _ _ (h z z3) hol (am_oks_cons z1 (am_oks_tl (am_oks_tl hos))) hom H locs L hP hS hl
  | ishl =>
    obtain ⟨rfl, hd⟩ := am_e1 hI hd
    obtain ⟨y, r, rfl, hN⟩ := am_s1_ok h; clear h; have h := hN; clear hN
    obtain ⟨x, r, rfl, h1, hN⟩ := am_s1_ok h; clear h; have h := hN; clear hN
    refine lv_ishl hex hb hd ?_
    rw [(am_shl h1).1]
    exact hk _ _ _ _ h hol (am_oks_cons (am_shl h1).2 (am_oks_tl (am_oks_tl hos))) hom H locs L hP hS hl
  | ishr =>
    obtain ⟨rfl, hd⟩ := am_e1 hI hd
    obtain ⟨y, r, rfl, hN⟩ := am_s1_ok h; clear h; have h := hN; clear hN
    obtain ⟨x, r, rfl, h1, hN⟩ := am_s1_ok h; clear h; have h := hN; clear hN
    have hx : am_inR x := am_oks_tl hos _ List.mem_cons_self
    refine lv_ishr hex hb hd ?_
    rw [(am_shr hx h1).1]
    exact hk _ _ _ _ h hol (am_oks_cons (am_shr hx h1).2 (am_oks_tl (am_oks_tl hos))) hom H locs L hP hS hl
  | i2l =>
    obtain ⟨rfl, hd⟩ := am_e1 hI hd
    obtain ⟨x, r, rfl, hN⟩ := am_s1_ok h; clear h; have h := hN; clear hN
    have hx : am_inR x := hos _ List.mem_cons_self
    refine lv_i2l (v := Int64.ofInt x) hex hb hd ?_ (hk _ _ _ _ h hol (am_oks_cons (v := .inr (.inr x)) ⟨by have := hx.1; omega, by have := hx.2; omega⟩ (am_oks_tl hos)) hom H locs L hP hS hl)
    rw [← Int64.ofInt_int32ToInt, am_toInt hx]
  | l2i =>
    obtain ⟨rfl, hd⟩ := am_e1 hI hd
    obtain ⟨x, r, rfl, h1, hN⟩ := am_sl_ok h; clear h; have h := hN; clear hN
    exact lv_l2i (v := Int32.ofInt x) hex hb hd Int64.toInt32_ofInt (hk _ _ _ _ h hol (am_oks_cons (v := .inl x) h1 (am_oks_tl hos)) hom H locs L hP hS hl)
  | ladd =>
    obtain ⟨rfl, hd⟩ := am_e1 hI hd
    obtain ⟨y, r, rfl, hN⟩ := am_sl_ok h; clear h; have h := hN; clear hN
    obtain ⟨x, r, rfl, h1, hN⟩ := am_sl_ok h; clear h; have h := hN; clear hN
    refine lv_ladd hex hb hd ?_
    rw [← Int64.ofInt_add]
    exact hk _ _ _ _ h hol (am_oks_cons (v := .inr (.inr _)) h1 (am_oks_tl (am_oks_tl hos))) hom H locs L hP hS hl
  | lmul =>
    obtain ⟨rfl, hd⟩ := am_e1 hI hd
    obtain ⟨y, r, rfl, hN⟩ := am_sl_ok h; clear h; have h := hN; clear hN
    obtain ⟨x, r, rfl, h1, hN⟩ := am_sl_ok h; clear h; have h := hN; clear hN
    refine lv_lmul hex hb hd ?_
    rw [← Int64.ofInt_mul]
    exact hk _ _ _ _ h hol (am_oks_cons (v := .inr (.inr _)) h1 (am_oks_tl (am_oks_tl hos))) hom H locs L hP hS hl
  | ldiv =>
    obtain ⟨rfl, hd⟩ := am_e1 hI hd
    obtain ⟨y, r, rfl, hN⟩ := am_sl_ok h; clear h; have h := hN; clear hN
    obtain ⟨x, r, rfl, ⟨h1, h2⟩, hN⟩ := am_sl_ok h; clear h; have h := hN; clear hN
    have hy : am_inL y := hos _ List.mem_cons_self
    have hx : am_inL x := am_oks_tl hos _ List.mem_cons_self
    refine lv_ldiv hex hb hd (am_lne0 hy h2) ?_
    rw [am_ldiv hx hy h1 h2]
    exact hk _ _ _ _ h hol (am_oks_cons (v := .inr (.inr _)) (am_divL hx h1 h2) (am_oks_tl (am_oks_tl hos))) hom H locs L hP hS hl
  | lrem =>
    obtain ⟨rfl, hd⟩ := am_e1 hI hd
    obtain ⟨y, r, rfl, hN⟩ := am_sl_ok h; clear h; have h := hN; clear hN
    obtain ⟨x, r, rfl, ⟨h1, h2⟩, hN⟩ := am_sl_ok h; clear h; have h := hN; clear hN
    have hy : am_inL y := hos _ List.mem_cons_self
    have hx : am_inL x := am_oks_tl hos _ List.mem_cons_self
    refine lv_lrem hex hb hd (am_lne0 hy h2) ?_
    rw [am_lrem hx hy h1 h2]
    exact hk _ _ _ _ h hol (am_oks_cons (v := .inr (.inr _)) (am_modL hy h2) (am_oks_tl (am_oks_tl hos))) hom H locs L hP hS hl
  | land =>
    obtain ⟨rfl, hd⟩ := am_e1 hI hd
    obtain ⟨y, r, rfl, hN⟩ := am_sl_ok h; clear h; have h := hN; clear hN
    obtain ⟨x, r, rfl, h1, hN⟩ := am_sl_ok h; clear h; have h := hN; clear hN
    have hx : am_inL x := am_oks_tl hos _ List.mem_cons_self
    refine lv_land hex hb hd ?_
    rw [am_land hx h1]
    exact hk _ _ _ _ h hol (am_oks_cons (v := .inr (.inr _)) (am_landR x) (am_oks_tl (am_oks_tl hos))) hom H locs L hP hS hl
  | dup =>
    obtain ⟨rfl, hd⟩ := am_e1 hI hd
    match st, h, hos with
    | .inl x :: r, h, hos => exact lv_dup hex hb hd rfl (hk _ _ _ _ h hol (am_oks_cons (hos _ List.mem_cons_self) hos) hom H locs L hP hS hl)
    | .inr (.inl x) :: r, h, hos => exact lv_dup hex hb hd rfl (hk _ _ _ _ h hol (am_oks_cons trivial hos) hom H locs L hP hS hl)
  | dup2 =>
    obtain ⟨rfl, hd⟩ := am_e1 hI hd
    obtain ⟨y, r, rfl, hN⟩ := am_s1_ok h; clear h; have h := hN; clear hN
    obtain ⟨x, r, rfl, hN⟩ := am_sr_ok h; clear h; have h := hN; clear hN
    exact lv_dup2_11 hex hb hd rfl rfl (hk _ _ _ _ h hol (am_oks_cons (hos _ List.mem_cons_self) (am_oks_cons trivial hos)) hom H locs L hP hS hl)
  | pop =>
    obtain ⟨rfl, hd⟩ := am_e1 hI hd
    obtain ⟨y, r, rfl, hN⟩ := am_s1_ok h; clear h; have h := hN; clear hN
    exact lv_pop hex hb hd rfl (hk _ _ _ _ h hol (am_oks_tl hos) hom H locs L hP hS hl)
  | getfield idx =>
    obtain ⟨h1, h2⟩ := am_and2 hI
    obtain ⟨rfl, hd⟩ := am_e1 h1 hd
    obtain ⟨o, r, rfl, hN⟩ := am_sr_ok h; clear h; have h := hN; clear hN
    match hs : am_SH o, res, h2 with
    | some (.inr (ci, fks)), ci' :: j :: pl :: _, h2 =>
      simp only [hs] at h
      cases hb' : Nat.beq ci ci' with
      | false => rw [hb'] at h; exact h.elim
      | true =>
        rw [hb'] at h
        have := am_beq hb'
        subst this
        simp only [cond_true] at h
        cases hf : fks[j]? with
        | none => rw [hf] at h; exact h.elim
        | some fk =>
          rw [hf] at h
          refine am_step_get hC0 (ls := ls) (k := k) hd hs h2 hf hP ?_
          match fk, h with
          | 0, h => exact hk _ _ _ _ h hol (am_oks_cons (v := .inl _) (hom o j) (am_oks_tl hos)) hom H locs L hP hS hl
          | 1, h => exact hk _ _ _ _ h hol (am_oks_cons (v := .inl _) (hom o j) (am_oks_tl hos)) hom H locs L hP hS hl
          | q + 2, h => exact hk _ _ _ _ h hol (am_oks_cons (v := .inr (.inl _)) trivial (am_oks_tl hos)) hom H locs L hP hS hl
    | some (.inr (ci, fks)), [_, _], h2 => cases h2
    | some (.inr (ci, fks)), [_], h2 => cases h2
    | some (.inr (ci, fks)), [], h2 => cases h2
    | some (.inl _), _, h2 => simp only [hs] at h
    | none, _, h2 => simp only [hs] at h
  | putfield idx =>
    obtain ⟨h1, h2⟩ := am_and2 hI
    obtain ⟨rfl, hd⟩ := am_e1 h1 hd
    obtain ⟨z, r, rfl, hN⟩ := am_s1_ok h; clear h; have h := hN; clear hN
    obtain ⟨o, r, rfl, hN⟩ := am_sr_ok h; clear h; have h := hN; clear hN
    have hz : am_inR z := hos _ List.mem_cons_self
    match hs : am_SH o, res, h2 with
    | some (.inr (ci, fks)), ci' :: j :: pl :: _, h2 =>
      simp only [hs] at h
      cases hb' : Nat.beq ci ci' with
      | false => rw [hb'] at h; exact h.elim
      | true =>
        rw [hb'] at h
        have := am_beq hb'
        subst this
        simp only [cond_true] at h
        cases hf : fks[j]? with
        | none => rw [hf] at h; exact h.elim
        | some fk =>
          rw [hf] at h
          match fk, h, hf with
          | 0, h, hf => exact am_step_put hC0 hd hs h2 (Or.inl hf) hP hS (fun H1 locs1 hP1 hS1 => hk _ _ _ _ h hol (am_oks_tl (am_oks_tl hos)) (am_okm_up hom hz) H1 locs1 L hP1 hS1 hl)
          | 1, h, hf => exact am_step_put hC0 hd hs h2 (Or.inr ⟨hf, h.1⟩) hP hS (fun H1 locs1 hP1 hS1 => hk _ _ _ _ h.2 hol (am_oks_tl (am_oks_tl hos)) (am_okm_up hom hz) H1 locs1 L hP1 hS1 hl)
          | q + 2, h, hf => exact h.elim
    | some (.inr (ci, fks)), [_, _], h2 => cases h2
    | some (.inr (ci, fks)), [_], h2 => cases h2
    | some (.inr (ci, fks)), [], h2 => cases h2
    | some (.inl _), _, h2 => simp only [hs] at h
    | none, _, h2 => simp only [hs] at h
  | getstatic idx =>
    obtain ⟨h1, h2⟩ := am_and2 hI
    obtain ⟨rfl, hd⟩ := am_e1 h1 hd
    match res, h, h2 with
    | r :: pl :: _, h, h2 =>
      simp only [Bool.or_eq_true] at h2
      rcases h2 with h2 | h2
      · obtain ⟨h3, h4⟩ := am_and2 h2
        have := am_beq h3
        subst this
        exact va_gets hex hb hEnv.2.2.2.1.2.2 hS hown (hts _ (am_isw_mem h4)) (fun x hx => hx) hd (hk _ _ _ _ h hol (am_oks_cons (v := .inr (.inl _)) trivial hos) hom H locs L hP hS hl)
      · obtain ⟨h3, h4⟩ := am_and2 h2
        have := am_beq h3
        subst this
        exact va_gets hex hb hEnv.2.2.2.2.2.2 hS hown (hts _ (am_isw_mem h4)) (fun x hx => hx) hd (hk _ _ _ _ h hol (am_oks_cons (v := .inr (.inl _)) trivial hos) hom H locs L hP hS hl)
    | [_], h, h2 => cases h2
    | [], h, h2 => cases h2
  | iaload =>
    obtain ⟨rfl, hd⟩ := am_e1 hI hd
    obtain ⟨i, r, rfl, hN⟩ := am_s1_ok h; clear h; have h := hN; clear hN
    obtain ⟨a, r, rfl, hN⟩ := am_sr_ok h; clear h; have h := hN; clear hN
    have hi : am_inR i := hos _ List.mem_cons_self
    match hs : am_SH a with
    | some (.inl (false, n)) =>
      simp only [hs] at h
      obtain ⟨⟨h1, h2⟩, h⟩ := h
      refine va_iald hex hb hEnv.1 hP a 0 (am_wo_get g mem hs) am_tysI (am_vp_in hi h1 h2) hd ?_
      rw [am_clamp hi h1]
      exact hk _ _ _ _ h hol (am_oks_cons (v := .inl _) (hom a _) (am_oks_tl (am_oks_tl hos))) hom H locs L hP hS hl
    | some (.inl (true, n)) => simp only [hs] at h
    | some (.inr _) => simp only [hs] at h
    | none =>
      simp only [hs] at h
      match hr : rom a with
      | none => simp only [hr] at h
      | some (n, f) =>
        simp only [hr] at h
        obtain ⟨⟨h1, h2⟩, h⟩ := h
        obtain ⟨x1, x2, x3, x4⟩ := hrom a n f hr
        refine va_sld hex hb x1 (am_X_lt x1) x2 hS (am_vp_in hi h1 h2) hd ?_
        rw [am_clamp hi h1]
        exact hk _ _ _ _ h hol (am_oks_cons (v := .inl _) (x4 _) (am_oks_tl (am_oks_tl hos))) hom H locs L hP hS hl
  | baload =>
    obtain ⟨rfl, hd⟩ := am_e1 hI hd
    obtain ⟨i, r, rfl, hN⟩ := am_s1_ok h; clear h; have h := hN; clear hN
    obtain ⟨a, r, rfl, hN⟩ := am_sr_ok h; clear h; have h := hN; clear hN
    have hi : am_inR i := hos _ List.mem_cons_self
    match hs : am_SH a with
    | some (.inl (true, n)) =>
      simp only [hs] at h
      obtain ⟨⟨h1, h2⟩, h⟩ := h
      refine va_zald hex hb hEnv.1 hP a 1 (am_wo_get g mem hs) am_tysZ (am_vp_in hi h1 h2) hd ?_
      rw [am_clamp hi h1]
      exact hk _ _ _ _ h hol (am_oks_cons (v := .inl _) (hom a _) (am_oks_tl (am_oks_tl hos))) hom H locs L hP hS hl
    | some (.inl (false, n)) => simp only [hs] at h
    | some (.inr _) => simp only [hs] at h
    | none => simp only [hs] at h
  | iastore =>
    obtain ⟨rfl, hd⟩ := am_e1 hI hd
    obtain ⟨z, r, rfl, hN⟩ := am_s1_ok h; clear h; have h := hN; clear hN
    obtain ⟨i, r, rfl, hN⟩ := am_s1_ok h; clear h; have h := hN; clear hN
    obtain ⟨a, r, rfl, hN⟩ := am_sr_ok h; clear h; have h := hN; clear hN
    have hz : am_inR z := hos _ List.mem_cons_self
    have hi : am_inR i := am_oks_tl hos _ List.mem_cons_self
    match hs : am_SH a with
    | some (.inl (false, n)) =>
      simp only [hs] at h
      obtain ⟨⟨h1, h2⟩, h⟩ := h
      refine va_iast hex hb hEnv.1 hP hD hS a 0 (am_wo_get g mem hs) am_tysI (am_vp_in hi h1 h2) hd (fun H1 locs1 hP1 _ hS1 => ?_)
      rw [am_clamp hi h1, am_arr_up] at hP1
      have e := am_arr_set (g := g) (mem := mem) (mem' := am_up mem a i.toNat z) hs rfl (fun k hk i => am_up_ne hk)
      rw [e] at hP1
      exact hk _ _ _ _ h hol (am_oks_tl (am_oks_tl (am_oks_tl hos))) (am_okm_up hom hz) H1 locs1 L hP1 hS1 hl
    | some (.inl (true, n)) => simp only [hs] at h
    | some (.inr _) => simp only [hs] at h
    | none => simp only [hs] at h
  | bastore =>
    obtain ⟨rfl, hd⟩ := am_e1 hI hd
    obtain ⟨z, r, rfl, hN⟩ := am_s1_ok h; clear h; have h := hN; clear hN
    obtain ⟨i, r, rfl, hN⟩ := am_s1_ok h; clear h; have h := hN; clear hN
    obtain ⟨a, r, rfl, hN⟩ := am_sr_ok h; clear h; have h := hN; clear hN
    have hz : am_inR z := hos _ List.mem_cons_self
    have hi : am_inR i := am_oks_tl hos _ List.mem_cons_self
    match hs : am_SH a with
    | some (.inl (true, n)) =>
      simp only [hs] at h
      obtain ⟨⟨⟨h1, h2⟩, h3⟩, h⟩ := h
      refine va_zast hex hb hEnv.1 hP hD hS a 1 (am_wo_get g mem hs) am_tysZ (am_vp_in hi h1 h2) hd (fun H1 locs1 hP1 _ hS1 => ?_)
      have hn : vp_nar .boolean (Int32.ofInt z) = Int32.ofInt z := by rcases h3 with rfl | rfl <;> decide +kernel
      rw [am_clamp hi h1, hn, am_arr_up] at hP1
      have e := am_arr_set (g := g) (mem := mem) (mem' := am_up mem a i.toNat z) hs rfl (fun k hk i => am_up_ne hk)
      rw [e] at hP1
      exact hk _ _ _ _ h hol (am_oks_tl (am_oks_tl (am_oks_tl hos))) (am_okm_up hom hz) H1 locs1 L hP1 hS1 hl
    | some (.inl (false, n)) => simp only [hs] at h
    | some (.inr _) => simp only [hs] at h
    | none => simp only [hs] at h
  | arraylength =>
    obtain ⟨rfl, hd⟩ := am_e1 hI hd
    obtain ⟨a, r, rfl, hN⟩ := am_sr_ok h; clear h; have h := hN; clear hN
    match hs : am_SH a with
    | some (.inl (z, n)) =>
      simp only [hs] at h
      have hn := am_sh_arr hs
      have ht : ∃ (t0 : Nat) (ty : FieldType), ([(g.2.2.1, .int), (g.2.2.2, .boolean)] : List (ClassId × FieldType))[t0]? = some (bif z then g.2.2.2 else g.2.2.1, ty) := by
        cases z
        · exact ⟨0, _, rfl⟩
        · exact ⟨1, _, rfl⟩
      obtain ⟨t0, ty, ht⟩ := ht
      exact va_alen (v := Int32.ofInt (n : Int)) hex hb hEnv.1 hP a t0 (am_wo_get g mem hs) ht (Int32.ofInt_eq_ofNat).symm hd (hk _ _ _ _ h hol (am_oks_cons (v := .inl _) ⟨by omega, by omega⟩ (am_oks_tl hos)) hom H locs L hP hS hl)
    | some (.inr _) => simp only [hs] at h
    | none =>
      simp only [hs] at h
      match hr : rom a with
      | none => simp only [hr] at h
      | some (n, f) =>
        simp only [hr] at h
        obtain ⟨x1, x2, x3, x4⟩ := hrom a n f hr
        refine va_slen hex hb x1 (am_X_lt x1) x2 hS hd ?_
        rw [← Int32.ofInt_eq_ofNat]
        exact hk _ _ _ _ h hol (am_oks_cons (v := .inl _) ⟨by omega, x3⟩ (am_oks_tl hos)) hom H locs L hP hS hl
  | if_icmp cd off =>
    obtain ⟨h1, h2⟩ := am_and2 hI
    obtain ⟨rfl, hd⟩ := am_e1 h1 hd
    obtain ⟨y, r, rfl, hN⟩ := am_s1_ok h; clear h; have h := hN; clear hN
    obtain ⟨x, r, rfl, hN⟩ := am_s1_ok h; clear h; have h := hN; clear hN
    have hy : am_inR y := hos _ List.mem_cons_self
    have hx : am_inR x := am_oks_tl hos _ List.mem_cons_self
    match tgts, h, h2 with
    | t :: _, h, h2 => exact am_step_br hC0 (ls := ls) (mem := mem) hx hy hd (of_decide_eq_true h2) (am_br_map (fun z => hk _ _ _ _ z hol (am_oks_tl (am_oks_tl hos)) hom H locs L hP hS hl) (fun z => hk _ _ _ _ z hol (am_oks_tl (am_oks_tl hos)) hom H locs L hP hS hl) h)
    | [], h, h2 => cases h2
  | ifCond cd off =>
    obtain ⟨h1, h2⟩ := am_and2 hI
    obtain ⟨rfl, hd⟩ := am_e1 h1 hd
    obtain ⟨x, r, rfl, hN⟩ := am_s1_ok h; clear h; have h := hN; clear hN
    have hx : am_inR x := hos _ List.mem_cons_self
    match tgts, h, h2 with
    | t :: _, h, h2 => exact am_step_b0 hC0 (ls := ls) (mem := mem) hx hd (of_decide_eq_true h2) (am_br_map (fun z => hk _ _ _ _ z hol (am_oks_tl hos) hom H locs L hP hS hl) (fun z => hk _ _ _ _ z hol (am_oks_tl hos) hom H locs L hP hS hl) h)
    | [], h, h2 => cases h2
  | goto off =>
    obtain ⟨h1, h2⟩ := am_and2 hI
    obtain ⟨rfl, hd⟩ := am_e1 h1 hd
    match tgts, h, h2 with
    | t :: _, h, h2 => exact lv_goto hex hb hd (of_decide_eq_true h2) (hk _ _ _ _ h hol hos hom H locs L hP hS hl)
    | [], h, h2 => cases h2
  | tableswitch d lo hi offs =>
    obtain ⟨x, r, rfl, hN⟩ := am_s1_ok h; clear h; have h := hN; clear hN
    have hx : am_inR x := hos _ List.mem_cons_self
    match tgts, h, hI with
    | dt :: ts, h, hI =>
      obtain ⟨h1, h3⟩ := am_and2 hI
      obtain ⟨h1, h2⟩ := am_and2 h1
      have h1 := of_decide_eq_true h1
      have h2 := of_decide_eq_true h2
      have h3 := of_decide_eq_true h3
      have hlen : ts.length = offs.size := by
        have := congrArg List.length h2
        simpa using this.symm
      by_cases hlt : x < lo
      · exact lv_tableOut hex hb hd (by rw [am_toInt hx]; exact Or.inl hlt) h1 (hk _ _ _ _ (h.1 hlt) hol (am_oks_tl hos) hom H locs L hP hS hl)
      · obtain ⟨g1, g2⟩ := am_tsw_ok ts lo h.2 (by omega)
        by_cases hgt : hi < x
        · exact lv_tableOut hex hb hd (by rw [am_toInt hx]; exact Or.inr hgt) h1 (hk _ _ _ _ (g2 (by omega)) hol (am_oks_tl hos) hom H locs L hP hS hl)
        · obtain ⟨t, ht, hkt⟩ := g1 (by omega)
          have hq : (ts.map (fun t : Nat => (t : Int)))[(x - lo).toNat]? = some (t : Int) := by rw [List.getElem?_map, ht]; rfl
          rw [← h2, List.getElem?_map] at hq
          cases ho : offs.toList[(x - lo).toNat]? with
          | none => rw [ho] at hq; cases hq
          | some off =>
            rw [ho] at hq
            refine lv_tableIn (off := off) hex hb hd (by rw [am_toInt hx]; exact hlt) (by rw [am_toInt hx]; exact hgt) ?_ (Option.some.inj hq) (hk _ _ _ _ hkt hol (am_oks_tl hos) hom H locs L hP hS hl)
            rw [am_toInt hx, ← Array.getElem?_toList]
            exact ho
    | [], h, hI => cases hI
  | lookupswitch d ps =>
    obtain ⟨x, r, rfl, hN⟩ := am_s1_ok h; clear h; have h := hN; clear hN
    have hx : am_inR x := hos _ List.mem_cons_self
    match tgts, h, hI with
    | dt :: ts, h, hI =>
      obtain ⟨h1, h3⟩ := am_and2 hI
      obtain ⟨h1, h2⟩ := am_and2 h1
      have h1 := of_decide_eq_true h1
      have h2 := of_decide_eq_true h2
      obtain ⟨off, t, g1, g2, g3⟩ := am_lsw_ok (k := fun t => k t ls r mem) h1 (fun z => z) ps.toList ts h2 h
      exact lv_lookup hex hb hd h3 (by rw [am_toInt hx]; exact g1) g2 (hk _ _ _ _ g3 hol (am_oks_tl hos) hom H locs L hP hS hl)
    | [], h, hI => cases hI
  | invokevirtual idx =>
    obtain ⟨h1, h2⟩ := am_and2 hI
    obtain ⟨rfl, hd⟩ := am_e1 h1 hd
    match res, h, h2 with
    | y :: n :: v :: ci :: p1 :: p2 :: p3 :: p4 :: p5 :: _, h, h2 =>
      obtain ⟨h2, q5⟩ := am_and2 h2
      obtain ⟨h2, q4⟩ := am_and2 h2
      obtain ⟨h2, q3⟩ := am_and2 h2
      obtain ⟨hcw, q2⟩ := am_and2 h2
      replace h : match am_take (n + 1) st [] with
        | some (.inr (.inl o) :: as, r) => bif (am_iso am_SH o ci && Nat.ble r.length 4) then ∃ Qc : am_Po, am_Mt l g y (.inr (.inl o) :: as) mem Qc ∧ ∀ z mem', Qc z mem' → k (pc + 3) ls (bif Nat.beq v 0 then r else .inl z :: r) mem' else False
        | _ => False := h
      match ht : am_take (n + 1) st [] with
      | some (.inr (.inl o) :: as, r) =>
        rw [ht] at h
        simp only at h
        cases hbb : (am_iso am_SH o ci && Nat.ble r.length 4) with
        | false => rw [hbb] at h; exact h.elim
        | true =>
          rw [hbb] at h
          obtain ⟨Qc, hM, hkk⟩ := h
          obtain ⟨hiso, hrl⟩ := am_and2 hbb
          have hrl := am_ble hrl
          obtain ⟨e1, e2, e3⟩ := am_take_st ht (am_vl g.2.1)
          obtain ⟨hoa, hor⟩ := e3 hos
          have hcat := am_cat g.2.1 r
          rw [e1]
          refine am_J_call hC0 (st := st) hcw hM hoa hom hor hol hP hS hl (fun mt => ?_) (fun z mem' hq => hk _ _ _ _ (hkk z mem' hq))
          unfold am_iso at hiso
          match hs : am_SH o with
          | some (.inr (ci', fks)) =>
            simp only [hs] at hiso
            have := am_beq hiso
            subst this
            obtain ⟨q, hq, -⟩ := am_sh_obj hs
            have hC1 : q.1 = (am_mi y).1.cls := by
              have := of_decide_eq_true q5
              rw [hq] at this
              exact Option.some.inj this
            have hn : as.length = n := by
              simp only [List.length_cons] at e2
              omega
            exact va_runV (C := (am_mi y).1.cls) (As := as.map (am_vl g.2.1)) (rest := r.map (am_vl g.2.1)) (b := g.2.1 o) ⟨hex, hb, hml, hown, hts⟩ mt ⟨am_cwB hC0 hcw q2, hts _ (am_isw_mem q3), hts _ (am_isw_mem q4)⟩ ⟨(am_preS hC0 hP hS _).1, by rw [← hC1]; exact va_recv hEnv.1 hP hq (am_wo_get g mem hs), (am_preS hC0 hP hS _).2⟩ rfl (by simp [hn]) hl.1 (by simp [am_vl]) (lv_room (by omega)) hd ⟨by omega, by omega⟩
          | some (.inl _) => simp only [hs] at hiso; cases hiso
          | none => simp only [hs] at hiso; cases hiso
      | some ([], r) => rw [ht] at h; exact h.elim
      | some (.inl _ :: as, r) => rw [ht] at h; exact h.elim
      | some (.inr (.inr _) :: as, r) => rw [ht] at h; exact h.elim
      | none => rw [ht] at h; exact h.elim
    | [_, _, _, _, _, _, _, _], h, h2 => cases h2
    | [_, _, _, _, _, _, _], h, h2 => cases h2
    | [_, _, _, _, _, _], h, h2 => cases h2
    | [_, _, _, _, _], h, h2 => cases h2
    | [_, _, _, _], h, h2 => cases h2
    | [_, _, _], h, h2 => cases h2
    | [_, _], h, h2 => cases h2
    | [_], h, h2 => cases h2
    | [], h, h2 => cases h2
  | invokestatic idx =>
    obtain ⟨h1, h2⟩ := am_and2 hI
    obtain ⟨rfl, hd⟩ := am_e1 h1 hd
    match res, h, h2 with
    | y :: n :: v :: kd :: p1 :: p2 :: p3 :: p4 :: _, h, h2 =>
      replace h : bif Nat.beq v 9 then (am_s1 st fun c st => am_s1 st fun dp st => am_sr st fun b st => am_s1 st fun sp st => am_sr st fun a st => match am_SH a, am_SH b with
        | some (.inl (false, na)), some (.inl (false, nb)) => bif Nat.ble st.length 4 then (0 ≤ sp ∧ 0 ≤ dp ∧ 0 ≤ c ∧ sp + c ≤ na ∧ dp + c ≤ nb) ∧ k (pc + 3) ls st (am_cp mem a sp.toNat b dp.toNat c.toNat) else False
        | _, _ => False) else (match am_take n st [] with
        | some (as, r) => bif Nat.ble r.length 4 then ∃ Qc : am_Po, am_Mt l g y as mem Qc ∧ ∀ z mem', Qc z mem' → k (pc + 3) ls (bif Nat.beq v 0 then r else .inl z :: r) mem' else False
        | none => False) := h
      replace h2 : (bif Nat.beq v 9 then (Nat.blt 0 dp && am_isw p1 (.methodLink own idx arraycopyName) && am_isw p2 (.native arraycopyName) && am_isw p3 (.static arraycopyName) && am_isw p4 (.initialized "java/lang/System"))
        else (am_cw dp y n v p3 p4 && am_isw p2 (.static (am_mi y).1) && (bif Nat.beq kd 0 then am_isw p1 (.methodLink own idx (am_mi y).1) else (decide (lw_tbl[p1]? = some (.methodLinkNest own idx (am_mi y).1 "RoofMattress")))))) = true := h2
      cases hv9 : Nat.beq v 9 with
      | true =>
        rw [hv9] at h h2
        simp only [cond_true] at h h2
        obtain ⟨h2, q4⟩ := am_and2 h2
        obtain ⟨h2, q3⟩ := am_and2 h2
        obtain ⟨h2, q2⟩ := am_and2 h2
        obtain ⟨h2, q1⟩ := am_and2 h2
        obtain ⟨cn, r, rfl, hN⟩ := am_s1_ok h; clear h; have h := hN; clear hN
        obtain ⟨dq, r, rfl, hN⟩ := am_s1_ok h; clear h; have h := hN; clear hN
        obtain ⟨b, r, rfl, hN⟩ := am_sr_ok h; clear h; have h := hN; clear hN
        obtain ⟨sp, r, rfl, hN⟩ := am_s1_ok h; clear h; have h := hN; clear hN
        obtain ⟨a, r, rfl, hN⟩ := am_sr_ok h; clear h; have h := hN; clear hN
        have hcn : am_inR cn := hos _ List.mem_cons_self
        have hdq : am_inR dq := am_oks_tl hos _ List.mem_cons_self
        have hsp : am_inR sp := am_oks_tl (am_oks_tl (am_oks_tl hos)) _ List.mem_cons_self
        match hsa : am_SH a, hsb : am_SH b with
        | some (.inl (false, na)), some (.inl (false, nb)) =>
          simp only [hsa, hsb] at h
          cases hrl : Nat.ble r.length 4 with
          | false => rw [hrl] at h; exact h.elim
          | true =>
            rw [hrl] at h
            exact am_step_copy hC0 (ls := ls) hd q1 q2 q3 q4 (am_blt h2) hsa hsb (am_ble hrl) hsp hdq hcn h.1 hP hS hl (fun H1 locs1 hP1 hS1 => hk _ _ _ _ h.2 hol (am_oks_tl (am_oks_tl (am_oks_tl (am_oks_tl (am_oks_tl hos))))) (am_okm_cp hom) H1 locs1 L hP1 hS1 hl)
        | some (.inl (false, na)), some (.inl (true, nb)) => simp only [hsa, hsb] at h
        | some (.inl (false, na)), some (.inr _) => simp only [hsa, hsb] at h
        | some (.inl (false, na)), none => simp only [hsa, hsb] at h
        | some (.inl (true, na)), _ => simp only [hsa] at h
        | some (.inr _), _ => simp only [hsa] at h
        | none, _ => simp only [hsa] at h
      | false =>
        rw [hv9] at h h2
        simp only [cond_false] at h h2
        obtain ⟨h2, q2⟩ := am_and2 h2
        obtain ⟨hcw, q1⟩ := am_and2 h2
        match ht : am_take n st [] with
        | some (as, r) =>
          rw [ht] at h
          simp only at h
          cases hrl : Nat.ble r.length 4 with
          | false => rw [hrl] at h; exact h.elim
          | true =>
            rw [hrl] at h
            obtain ⟨Qc, hM, hkk⟩ := h
            have hrl := am_ble hrl
            obtain ⟨e1, e2, e3⟩ := am_take_st ht (am_vl g.2.1)
            obtain ⟨hoa, hor⟩ := e3 hos
            have hcat := am_cat g.2.1 r
            rw [e1]
            refine am_J_call hC0 (st := st) hcw hM hoa hom hor hol hP hS hl (fun mt => ?_) (fun z mem' hq => hk _ _ _ _ (hkk z mem' hq))
            cases hkd : Nat.beq kd 0 with
            | true =>
              rw [hkd] at q2
              exact va_runS (As := as.map (am_vl g.2.1)) (rest := r.map (am_vl g.2.1)) ⟨hex, hb, hml, hown, hts⟩ mt ⟨am_cwB hC0 hcw q2, hts _ (am_isw_mem q1)⟩ (am_preS hC0 hP hS _) rfl (by simp [e2]) hl.1 rfl (lv_room (by omega)) hd ⟨by omega, by omega⟩
            | false =>
              rw [hkd] at q2
              have hnt : Cond.methodLinkNest own idx (am_mi y).1 "RoofMattress" ∈ am_nt := List.mem_filter.mpr ⟨List.mem_of_getElem? (of_decide_eq_true q2), rfl⟩
              exact va_runSN (As := as.map (am_vl g.2.1)) (rest := r.map (am_vl g.2.1)) ⟨hex, hb, hml, hown, hts⟩ mt ⟨am_cwN hC0 hcw hnt, hts _ (am_isw_mem q1), trivial⟩ (am_preS hC0 hP hS _) rfl (by simp [e2]) hl.1 rfl (lv_room (by omega)) hd ⟨by omega, by omega⟩
        | none => rw [ht] at h; exact h.elim
    | [_, _, _, _, _, _, _], h, h2 => cases h2
    | [_, _, _, _, _, _], h, h2 => cases h2
    | [_, _, _, _, _], h, h2 => cases h2
    | [_, _, _, _], h, h2 => cases h2
    | [_, _, _], h, h2 => cases h2
    | [_, _], h, h2 => cases h2
    | [_], h, h2 => cases h2
    | [], h, h2 => cases h2
  | ireturn =>
    obtain ⟨h1, h2⟩ := am_and2 hI
    obtain ⟨rfl, hd⟩ := am_e1 h2 hd
    have hrv : rv = false := by
      cases rv
      · rfl
      · cases h1
    match st, h, hos with
    | [.inl z], h, hos =>
      cases rb with
      | true => exact hret.1 pc z mem H locs L hrv hd h.2 (fun _ => h.1) (hos _ List.mem_cons_self) hom hP hS
      | false => exact hret.1 pc z mem H locs L hrv hd h (fun q => by cases q) (hos _ List.mem_cons_self) hom hP hS
  | return_ =>
    obtain ⟨hrv, h2⟩ := am_and2 hI
    obtain ⟨rfl, hd⟩ := am_e1 h2 hd
    match st, h with
    | [], h => exact hret.2 pc mem H locs L hrv hd h hom hP hS
  | _ => exact h.elim
end STR
