section M2
variable {l : Launch} {g : am_G} {mem : am_Mem} {t am : Int}
/-- a mile by a row of the reference: driven or lost -/
def rl_mro_n (mem : am_Mem) : Nat := (rl_rd (mem 0 17).toNat (fun r => mem 7 (3 * r)) (mem 8 1)).toNat
def rl_mow_n (mem : am_Mem) (pa : Int) : Int := min pa (mem 7 (3 * rl_mro_n mem + 1))
def rl_Qg_n (mem : am_Mem) (pa mo : Int) : am_Po := fun z m => (rl_mh_n mem 0 (rl_mow_n mem pa + (mem 7 (3 * rl_mro_n mem + 2) + mo)) ∧ z = 1 ∧ m = am_st mem 8 (rw_drv (mem 0 16).toNat (fun c => mem 6 (3 * c + 2)) (rl_mow_n mem pa) (mem 8))) ∨ (¬ rl_mh_n mem 0 (rl_mow_n mem pa + (mem 7 (3 * rl_mro_n mem + 2) + mo)) ∧ z = 0 ∧ m = am_st mem 8 (rw_lost (mem 8)))
theorem mp_goOn_n {pa mo : Int} (hP : rl_MP mem) (hr : rl_rok (mem 0 16) (rl_mam mem) t (mem 8)) (ht : t ≤ 1000) (hd : mem 8 1 < rl_mam mem) (hp : 10 ≤ pa) (hp' : pa ≤ 70) (hm : 0 ≤ mo) (hm' : mo ≤ 10) : am_Mt l g 120 [.inr (.inl 0), .inr (.inl 8), .inl pa, .inl mo] mem (rl_Qg_n mem pa mo) := by
  obtain ⟨p0, p2, p3, p4, p5, pc, pr⟩ := id hP
  obtain ⟨r0, r1, r2, r3, r4, rc⟩ := id hr
  have ha := rl_mam_bd hP
  have hin := rl_rd_in (ml := fun r => mem 7 (3 * r)) (x := mem 8 1) (nr := (mem 0 17).toNat) hd r1.1 (fun i hi => by have := (pr i (by omega)).1; omega)
  have e1 : rl_rd (mem 0 17).toNat (fun r => mem 7 (3 * r)) (mem 8 1) = (rl_mro_n mem : Int) := by unfold rl_mro_n; omega
  have e2 : ((rl_mro_n mem : Nat) : Int) < mem 0 17 := by omega
  have hrr := pr _ e2
  have hs : ∀ c : Nat, (c : Int) < mem 0 16 → (0 ≤ mem 8 (9 + c) ∧ mem 8 (9 + c) ≤ 99) ∧ (0 ≤ mem 8 (13 + c) ∧ mem 8 (13 + c) ≤ 1000) := fun c hc => by
    have := rc c hc
    omega
  have key : ∀ own, own = rl_mow_n mem pa → (∃ q : am_Po, am_Mt l g 116 [.inr (.inl 0), .inr (.inl 8), .inl own, .inl (mem 7 (3 * rl_mro_n mem + 2) + mo)] mem q ∧ ∀ (z : Int) (m : am_Mem), q z m → ((¬ z = 0 → ((0 ≤ (2 : Int) ∧ (2 : Int) < 17) ∧ ((0 ≤ (3600 : Int) ∧ 0 < own) ∧ ((-2147483648 ≤ m 8 2 + 3600 / own ∧ m 8 2 + 3600 / own ≤ 2147483647) ∧ ((0 ≤ (2 : Int) ∧ (2 : Int) < 17) ∧ (∃ q : am_Po, am_Mt l g 119 [.inr (.inl 0), .inr (.inl 8)] (am_up m 8 2 (m 8 2 + 3600 / own)) q ∧ ∀ (z : Int) (m : am_Mem), q z m → ((0 ≤ (1 : Int) ∧ (1 : Int) < 17) ∧ ((-2147483648 ≤ m 8 1 + 1 ∧ m 8 1 + 1 ≤ 2147483647) ∧ ((0 ≤ (1 : Int) ∧ (1 : Int) < 17) ∧ (((1 : Int) = 0 ∨ (1 : Int) = 1) ∧ rl_Qg_n mem pa mo 1 (am_up m 8 1 (m 8 1 + 1)))))))))))) ∧ (z = 0 → ((0 ≤ (4 : Int) ∧ (4 : Int) < 17) ∧ ((0 ≤ (3 : Int) ∧ (3 : Int) < 17) ∧ ((-2147483648 ≤ am_up m 8 4 1 8 3 + 1 ∧ am_up m 8 4 1 8 3 + 1 ≤ 2147483647) ∧ ((0 ≤ (3 : Int) ∧ (3 : Int) < 17) ∧ (((0 : Int) = 0 ∨ (0 : Int) = 1) ∧ rl_Qg_n mem pa mo 0 (am_up (am_up m 8 4 1) 8 3 (am_up m 8 4 1 8 3 + 1)))))))))) := by
    rintro own rfl
    have ho : 10 ≤ rl_mow_n mem pa ∧ rl_mow_n mem pa ≤ 70 := by unfold rl_mow_n; omega
    have h36 := rl_3600 ho.1 ho.2
    refine am_cbn (mp_holds_n hP hr (by omega) (by omega)) (fun hh => ⟨by omega, by omega, by omega, by omega, am_cl (mp_slacken_n (mem := am_up mem 8 2 (mem 8 2 + 3600 / rl_mow_n mem pa)) hP (fun c hc => ?_)) ⟨by omega, ?_, by omega, Or.inr rfl, Or.inl ⟨hh, rfl, ?_⟩⟩⟩) (fun hh => ⟨by omega, by omega, ?_, by omega, Or.inl rfl, Or.inr ⟨hh, rfl, ?_⟩⟩)
    · have h1 := hs c hc
      have a9 : am_up mem 8 2 (mem 8 2 + 3600 / rl_mow_n mem pa) 8 (9 + c) = mem 8 (9 + c) := by simp only [am_up]; rw [if_neg (by omega)]
      have a13 : am_up mem 8 2 (mem 8 2 + 3600 / rl_mow_n mem pa) 8 (13 + c) = mem 8 (13 + c) := by simp only [am_up]; rw [if_neg (by omega)]
      rw [a9, a13]; exact h1
    · have : am_st (am_up mem 8 2 (mem 8 2 + 3600 / rl_mow_n mem pa)) 8 (rw_slk ((am_up mem 8 2 (mem 8 2 + 3600 / rl_mow_n mem pa)) 0 16).toNat (fun c => (am_up mem 8 2 (mem 8 2 + 3600 / rl_mow_n mem pa)) 6 (3 * c + 2)) ((am_up mem 8 2 (mem 8 2 + 3600 / rl_mow_n mem pa)) 8)) 8 1 = mem 8 1 := by
        rw [am_st_at]; simp only [rw_slk, am_up]; simp
      rw [this]; omega
    · have e16 : am_up mem 8 2 (mem 8 2 + 3600 / rl_mow_n mem pa) 0 16 = mem 0 16 := rfl
      have e6 : (fun c : Nat => am_up mem 8 2 (mem 8 2 + 3600 / rl_mow_n mem pa) 6 (3 * c + 2)) = fun c => mem 6 (3 * c + 2) := rfl
      rw [e16, e6, am_up_as mem 8 2, am_st_at, am_st_st, am_up_st]
      congr 1
      funext i
      rw [am_st_at]
      simp only [rw_drv, rw_slk]
      grind
    · show _ ≤ mem 8 3 + 1 ∧ mem 8 3 + 1 ≤ _; omega
    · show am_up (am_up mem 8 4 1) 8 3 (mem 8 3 + 1) = _
      rw [am_up_as mem 8 4, am_up_st]
      congr 1
  refine fm_X10_goOn_n ⟨by omega, am_cl (mp_roadOf hP) ?_⟩
  rw [e1, rl_k1, rl_k2]
  refine ⟨by omega, by omega, by omega, fun h => ⟨by omega, by omega, by omega, by omega, by omega, by omega, by omega, ?_⟩, fun h => ⟨by omega, by omega, by omega, by omega, ?_⟩⟩
  · exact key _ (by unfold rl_mow_n; omega)
  · exact key _ (by unfold rl_mow_n; omega)
/-- the highest pace by a row -/
def rl_hi (P : Int → Prop) (z : Int) : Prop := (z = -1 ∧ ∀ p, 10 ≤ p → p ≤ 70 → ¬ P p) ∨ (10 ≤ z ∧ z ≤ 70 ∧ P z ∧ ∀ p, z < p → p ≤ 70 → ¬ P p)
theorem mp_highestBy_n {gu mo : Int} (hP : rl_MP mem) (hr : rl_rok (mem 0 16) am t (mem 8)) (hg : 0 ≤ gu) (hg' : gu ≤ 30) (hm : 0 ≤ mo) (hm' : mo ≤ 99) : am_Mt l g 131 [.inr (.inl 0), .inr (.inl 8), .inl gu, .inl mo] mem (fun z m => m = mem ∧ rl_hi (fun p => rl_mh_n mem mo (p + gu)) z) := by
  refine fm_X10_highestBy_n (fun k v2 v3 v4 m => m = mem ∧ v2 = gu ∧ v3 = mo ∧ 9 ≤ v4 ∧ v4 ≤ 70 ∧ (∀ p, v4 < p → p ≤ 70 → ¬ rl_mh_n mem mo (p + gu)) ∧ k = v4.toNat) ⟨70, rfl, rfl, rfl, rfl, rfl, by omega, by omega, fun p h1 h2 => by omega, rfl⟩ ?_
  rintro k v2 v3 v4 m ⟨rfl, rfl, rfl, h1, h2, h3, rfl⟩
  refine ⟨fun h => ⟨rfl, Or.inl ⟨rfl, fun p a b => h3 p (by omega) b⟩⟩, fun h => am_cbe (mp_holdsBy_n hP hr (by omega) (by omega) hm hm') (fun hh => ⟨rfl, Or.inr ⟨h, h2, hh, h3⟩⟩) (fun hh => ⟨by omega, (v4 + -1).toNat, by omega, rfl, rfl, rfl, rfl, rfl, by omega, by omega, fun p a b => ?_, rfl⟩)⟩
  by_cases e : p = v4
  · subst e; exact hh
  · exact h3 p (by omega) b
/-- a mile by a row of the reference: driven or lost -/
def rl_mro_t (mem : am_Mem) : Nat := (rl_rd (mem 0 17).toNat (fun r => mem 7 (3 * r)) (mem 9 1)).toNat
def rl_mow_t (mem : am_Mem) (pa : Int) : Int := min pa (mem 7 (3 * rl_mro_t mem + 1))
def rl_Qg_t (mem : am_Mem) (pa mo : Int) : am_Po := fun z m => (rl_mh_t mem 0 (rl_mow_t mem pa + (mem 7 (3 * rl_mro_t mem + 2) + mo)) ∧ z = 1 ∧ m = am_st mem 9 (rw_drv (mem 0 16).toNat (fun c => mem 6 (3 * c + 2)) (rl_mow_t mem pa) (mem 9))) ∨ (¬ rl_mh_t mem 0 (rl_mow_t mem pa + (mem 7 (3 * rl_mro_t mem + 2) + mo)) ∧ z = 0 ∧ m = am_st mem 9 (rw_lost (mem 9)))
theorem mp_goOn_t {pa mo : Int} (hP : rl_MP mem) (hr : rl_rok (mem 0 16) (rl_mam mem) t (mem 9)) (ht : t ≤ 1000) (hd : mem 9 1 < rl_mam mem) (hp : 10 ≤ pa) (hp' : pa ≤ 70) (hm : 0 ≤ mo) (hm' : mo ≤ 10) : am_Mt l g 120 [.inr (.inl 0), .inr (.inl 9), .inl pa, .inl mo] mem (rl_Qg_t mem pa mo) := by
  obtain ⟨p0, p2, p3, p4, p5, pc, pr⟩ := id hP
  obtain ⟨r0, r1, r2, r3, r4, rc⟩ := id hr
  have ha := rl_mam_bd hP
  have hin := rl_rd_in (ml := fun r => mem 7 (3 * r)) (x := mem 9 1) (nr := (mem 0 17).toNat) hd r1.1 (fun i hi => by have := (pr i (by omega)).1; omega)
  have e1 : rl_rd (mem 0 17).toNat (fun r => mem 7 (3 * r)) (mem 9 1) = (rl_mro_t mem : Int) := by unfold rl_mro_t; omega
  have e2 : ((rl_mro_t mem : Nat) : Int) < mem 0 17 := by omega
  have hrr := pr _ e2
  have hs : ∀ c : Nat, (c : Int) < mem 0 16 → (0 ≤ mem 9 (9 + c) ∧ mem 9 (9 + c) ≤ 99) ∧ (0 ≤ mem 9 (13 + c) ∧ mem 9 (13 + c) ≤ 1000) := fun c hc => by
    have := rc c hc
    omega
  have key : ∀ own, own = rl_mow_t mem pa → (∃ q : am_Po, am_Mt l g 116 [.inr (.inl 0), .inr (.inl 9), .inl own, .inl (mem 7 (3 * rl_mro_t mem + 2) + mo)] mem q ∧ ∀ (z : Int) (m : am_Mem), q z m → ((¬ z = 0 → ((0 ≤ (2 : Int) ∧ (2 : Int) < 17) ∧ ((0 ≤ (3600 : Int) ∧ 0 < own) ∧ ((-2147483648 ≤ m 9 2 + 3600 / own ∧ m 9 2 + 3600 / own ≤ 2147483647) ∧ ((0 ≤ (2 : Int) ∧ (2 : Int) < 17) ∧ (∃ q : am_Po, am_Mt l g 119 [.inr (.inl 0), .inr (.inl 9)] (am_up m 9 2 (m 9 2 + 3600 / own)) q ∧ ∀ (z : Int) (m : am_Mem), q z m → ((0 ≤ (1 : Int) ∧ (1 : Int) < 17) ∧ ((-2147483648 ≤ m 9 1 + 1 ∧ m 9 1 + 1 ≤ 2147483647) ∧ ((0 ≤ (1 : Int) ∧ (1 : Int) < 17) ∧ (((1 : Int) = 0 ∨ (1 : Int) = 1) ∧ rl_Qg_t mem pa mo 1 (am_up m 9 1 (m 9 1 + 1)))))))))))) ∧ (z = 0 → ((0 ≤ (4 : Int) ∧ (4 : Int) < 17) ∧ ((0 ≤ (3 : Int) ∧ (3 : Int) < 17) ∧ ((-2147483648 ≤ am_up m 9 4 1 9 3 + 1 ∧ am_up m 9 4 1 9 3 + 1 ≤ 2147483647) ∧ ((0 ≤ (3 : Int) ∧ (3 : Int) < 17) ∧ (((0 : Int) = 0 ∨ (0 : Int) = 1) ∧ rl_Qg_t mem pa mo 0 (am_up (am_up m 9 4 1) 9 3 (am_up m 9 4 1 9 3 + 1)))))))))) := by
    rintro own rfl
    have ho : 10 ≤ rl_mow_t mem pa ∧ rl_mow_t mem pa ≤ 70 := by unfold rl_mow_t; omega
    have h36 := rl_3600 ho.1 ho.2
    refine am_cbn (mp_holds_t hP (rl_hok_of hr) (by omega) (by omega)) (fun hh => ⟨by omega, by omega, by omega, by omega, am_cl (mp_slacken_t (mem := am_up mem 9 2 (mem 9 2 + 3600 / rl_mow_t mem pa)) hP (fun c hc => ?_)) ⟨by omega, ?_, by omega, Or.inr rfl, Or.inl ⟨hh, rfl, ?_⟩⟩⟩) (fun hh => ⟨by omega, by omega, ?_, by omega, Or.inl rfl, Or.inr ⟨hh, rfl, ?_⟩⟩)
    · have h1 := hs c hc
      have a9 : am_up mem 9 2 (mem 9 2 + 3600 / rl_mow_t mem pa) 9 (9 + c) = mem 9 (9 + c) := by simp only [am_up]; rw [if_neg (by omega)]
      have a13 : am_up mem 9 2 (mem 9 2 + 3600 / rl_mow_t mem pa) 9 (13 + c) = mem 9 (13 + c) := by simp only [am_up]; rw [if_neg (by omega)]
      rw [a9, a13]; exact h1
    · have : am_st (am_up mem 9 2 (mem 9 2 + 3600 / rl_mow_t mem pa)) 9 (rw_slk ((am_up mem 9 2 (mem 9 2 + 3600 / rl_mow_t mem pa)) 0 16).toNat (fun c => (am_up mem 9 2 (mem 9 2 + 3600 / rl_mow_t mem pa)) 6 (3 * c + 2)) ((am_up mem 9 2 (mem 9 2 + 3600 / rl_mow_t mem pa)) 9)) 9 1 = mem 9 1 := by
        rw [am_st_at]; simp only [rw_slk, am_up]; simp
      rw [this]; omega
    · have e16 : am_up mem 9 2 (mem 9 2 + 3600 / rl_mow_t mem pa) 0 16 = mem 0 16 := rfl
      have e6 : (fun c : Nat => am_up mem 9 2 (mem 9 2 + 3600 / rl_mow_t mem pa) 6 (3 * c + 2)) = fun c => mem 6 (3 * c + 2) := rfl
      rw [e16, e6, am_up_as mem 9 2, am_st_at, am_st_st, am_up_st]
      congr 1
      funext i
      rw [am_st_at]
      simp only [rw_drv, rw_slk]
      grind
    · show _ ≤ mem 9 3 + 1 ∧ mem 9 3 + 1 ≤ _; omega
    · show am_up (am_up mem 9 4 1) 9 3 (mem 9 3 + 1) = _
      rw [am_up_as mem 9 4, am_up_st]
      congr 1
  refine fm_X10_goOn_t ⟨by omega, am_cl (mp_roadOf hP) ?_⟩
  rw [e1, rl_k1, rl_k2]
  refine ⟨by omega, by omega, by omega, fun h => ⟨by omega, by omega, by omega, by omega, by omega, by omega, by omega, ?_⟩, fun h => ⟨by omega, by omega, by omega, by omega, ?_⟩⟩
  · exact key _ (by unfold rl_mow_t; omega)
  · exact key _ (by unfold rl_mow_t; omega)
theorem mp_highestBy_t {gu mo : Int} (hP : rl_MP mem) (hr : rl_hok (mem 0 16) (mem 9)) (hg : 0 ≤ gu) (hg' : gu ≤ 30) (hm : 0 ≤ mo) (hm' : mo ≤ 99) : am_Mt l g 131 [.inr (.inl 0), .inr (.inl 9), .inl gu, .inl mo] mem (fun z m => m = mem ∧ rl_hi (fun p => rl_mh_t mem mo (p + gu)) z) := by
  refine fm_X10_highestBy_t (fun k v2 v3 v4 m => m = mem ∧ v2 = gu ∧ v3 = mo ∧ 9 ≤ v4 ∧ v4 ≤ 70 ∧ (∀ p, v4 < p → p ≤ 70 → ¬ rl_mh_t mem mo (p + gu)) ∧ k = v4.toNat) ⟨70, rfl, rfl, rfl, rfl, rfl, by omega, by omega, fun p h1 h2 => by omega, rfl⟩ ?_
  rintro k v2 v3 v4 m ⟨rfl, rfl, rfl, h1, h2, h3, rfl⟩
  refine ⟨fun h => ⟨rfl, Or.inl ⟨rfl, fun p a b => h3 p (by omega) b⟩⟩, fun h => am_cbe (mp_holdsBy_t hP hr (by omega) (by omega) hm hm') (fun hh => ⟨rfl, Or.inr ⟨h, h2, hh, h3⟩⟩) (fun hh => ⟨by omega, (v4 + -1).toNat, by omega, rfl, rfl, rfl, rfl, rfl, by omega, by omega, fun p a b => ?_, rfl⟩)⟩
  by_cases e : p = v4
  · subst e; exact hh
  · exact h3 p (by omega) b
end M2
