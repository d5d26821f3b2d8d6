section OPI
variable {l : Launch} {g : am_G} {mem mm : am_Mem} {t : Int}
def rl_ct (lo hi all z : Int) : Int := max (max 0 (hi - max lo z + 1)) (all - max 0 (hi - max lo z + 1))
def rl_bst (mem : am_Mem) (c : Nat) (u lo hi all : Int) : Nat → Int → Int → Prop
  | 0, b, n => b = -1 ∧ n = all
  | k + 1, b, n => ∃ b0 n0 z, rl_bst mem c u lo hi all k b0 n0 ∧ rl_tth mem c (10 + (k : Int) + u) z ∧ ((rl_ct lo hi all z < n0 ∧ b = 10 + (k : Int) ∧ n = rl_ct lo hi all z) ∨ (n0 ≤ rl_ct lo hi all z ∧ b = b0 ∧ n = n0))
theorem rl_tth_un {c : Nat} {v z z' : Int} (h : rl_tth mem c v z) (h' : rl_tth mem c v z') : z' = z := by
  obtain ⟨a, b, d⟩ := h
  obtain ⟨a', b', d'⟩ := h'
  rcases (show z' < z ∨ z' = z ∨ z < z' by omega) with q | q | q
  · have := (d z' a' (by omega)).mp ((d' z' a' (by omega)).mpr (by omega)); omega
  · exact q
  · have := (d' z a (by omega)).mp ((d z a (by omega)).mpr (by omega)); omega
theorem rl_bst_un {c : Nat} {u lo hi all : Int} : ∀ (k : Nat) (b n b' n' : Int), rl_bst mem c u lo hi all k b n → rl_bst mem c u lo hi all k b' n' → b' = b ∧ n' = n
  | 0, b, n, b', n', h, h' => ⟨by rw [h.1, h'.1], by rw [h.2, h'.2]⟩
  | k + 1, b, n, b', n', h, h' => by
    obtain ⟨b0, n0, z, h1, h2, h3⟩ := h
    obtain ⟨b0', n0', z', h1', h2', h3'⟩ := h'
    obtain ⟨rfl, rfl⟩ := rl_bst_un k _ _ _ _ h1 h1'
    have := rl_tth_un h2 h2'
    subst this
    omega
theorem rl_bst_ex {c : Nat} {u lo hi all : Int} : ∀ (K : Nat) (b n : Int), rl_bst mem c u lo hi all K b n → ∀ k, k < K → ∃ z, rl_tth mem c (10 + (k : Int) + u) z
  | 0, _, _, _, k, hk => by omega
  | K + 1, b, n, h, k, hk => by
    obtain ⟨b0, n0, z, h1, h2, h3⟩ := h
    by_cases e : k = K
    · subst e; exact ⟨z, h2⟩
    · exact rl_bst_ex K _ _ h1 k (by omega)
def rl_CD (lo hi : Int) (m : am_Mem) : Prop := ∀ j : Nat, j < 100 → (¬ m 16 j = 0 ↔ lo ≤ j ∧ (j : Int) ≤ hi)
def rl_J41 (mem : am_Mem) (c : Nat) (u lo hi all : Int) : Nat → Int → Int → Int → Int → Int → Int → am_Mem → Prop := fun n v1 v2 v3 v4 v5 v6 m => v1 = c ∧ v2 = u ∧ v3 = all ∧ rl_U mem m ∧ rl_CD lo hi m ∧ ∃ k : Nat, v6 = 10 + (k : Int) ∧ k ≤ 61 ∧ rl_bst mem c u lo hi all k v4 v5 ∧ n = (61 - k) * 102 + 101
def rl_J54 (mem : am_Mem) (c : Nat) (u lo hi all : Int) : Nat → Int → Int → Int → Int → Int → Int → Int → Int → am_Mem → Prop := fun n v1 v2 v3 v4 v5 v6 v7 v8 m => v1 = c ∧ v2 = u ∧ v3 = all ∧ rl_U mem m ∧ rl_CD lo hi m ∧ ∃ (k i : Nat) (z : Int), v6 = 10 + (k : Int) ∧ k < 61 ∧ rl_bst mem c u lo hi all k v4 v5 ∧ rl_tth mem c (10 + (k : Int) + u) z ∧ v8 = i ∧ i ≤ 100 ∧ v7 = max 0 (min ((i : Int) - 1) hi - max lo z + 1) ∧ n = (61 - k) * 102 + (100 - i)
theorem mp_tries {c : Nat} {u lo hi z n : Int} (hR : rl_R t mem mem) (hc : (c : Int) < mem 29 4) (hu : 0 ≤ u ∧ u ≤ 30) (hlo : 0 ≤ lo ∧ lo ≤ 100) (hhi : -1 ≤ hi ∧ hi ≤ 99) (hf : ∀ ti, 0 ≤ ti → ti ≤ 99 → (rl_ft mem c (mem 46 4).toNat ti ↔ lo ≤ ti ∧ ti ≤ hi)) (hb : rl_bst mem c u lo hi (max 0 (hi - lo + 1)) 61 z n) : am_Mt l g 148 [.inr (.inl 0), .inl c, .inl u] mem (rl_Q2 t z) := by
  have R1 := rl_R1 hR
  have h4 := hR.1.1.2.2.2.1
  have b4 := hR.2.1.2.2.2.1
  refine fm_X10_tries (rl_J41 mem c u lo hi (max 0 (hi - lo + 1))) (rl_J54 mem c u lo hi (max 0 (hi - lo + 1))) (am_cbn (mp_isCord (by omega) (by omega)) (fun _ => am_cbn (mp_in u 0 30) (fun _ => am_cq (mp_was hR hc (by omega) hlo hhi hf (fun z m h => h)) ?_) (fun h => absurd hu h)) (fun h => absurd ⟨by omega, by omega⟩ h)) ?_ ?_
  · rintro z' m' ⟨q1, q2, q3⟩
    have := q2.1 rfl
    subst this
    exact ⟨_, rfl, rfl, rfl, rfl, q1, q3, 0, rfl, by omega, ⟨rfl, rfl⟩, rfl⟩
  · rintro n' v1 v2 v3 v4 v5 v6 m ⟨rfl, rfl, rfl, hU, hC, k, rfl, hk, hbk, rfl⟩
    refine ⟨fun h => ?_, fun h => ?_⟩
    · have e : k = 61 := by omega
      subst e
      exact ⟨(rl_bst_un 61 _ _ _ _ hb hbk).1, rl_U_R R1 hU⟩
    · obtain ⟨z', hz'⟩ := rl_bst_ex 61 _ _ hb k (by omega)
      have := hz'.1
      exact ⟨(61 - k) * 102 + 100, by omega, rfl, rfl, rfl, rfl, hU, hC, k, 0, z', rfl, by omega, hbk, hz', rfl, by omega, by omega, rfl⟩
  · rintro n' v1 v2 v3 v4 v5 v6 v7 v8 m ⟨rfl, rfl, rfl, hU, hC, k, i, z', rfl, hk, hbk, hz', rfl, hi', rfl, rfl⟩
    have z0 := hz'.1
    have z1 := hz'.2.1
    refine ⟨fun h => ?_, fun h => ?_⟩
    · have ei : i = 100 := by omega
      subst ei
      have hct : rl_ct lo hi (max 0 (hi - lo + 1)) z' = max (max 0 (min (((100 : Nat) : Int) - 1) hi - max lo z' + 1)) (max 0 (hi - lo + 1) - max 0 (min (((100 : Nat) : Int) - 1) hi - max lo z' + 1)) := by
        unfold rl_ct; omega
      have go : ∀ b n, ((rl_ct lo hi (max 0 (hi - lo + 1)) z' < v5 ∧ b = 10 + (k : Int) ∧ n = rl_ct lo hi (max 0 (hi - lo + 1)) z') ∨ (v5 ≤ rl_ct lo hi (max 0 (hi - lo + 1)) z' ∧ b = v4 ∧ n = v5)) → ∃ n' : Nat, n' < (61 - k) * 102 + (100 - 100) ∧ (0 : Nat) = 0 ∧ rl_J41 mem c v2 lo hi (max 0 (hi - lo + 1)) n' c v2 (max 0 (hi - lo + 1)) b n (10 + (k : Int) + 1) m := fun b n hh =>
        ⟨(61 - (k + 1)) * 102 + 101, by omega, rfl, rfl, rfl, rfl, hU, hC, k + 1, by omega, by omega, ⟨v4, v5, z', hbk, hz', hh⟩, rfl⟩
      refine ⟨by omega, fun h1 => ⟨by omega, fun h2 => ⟨fun h3 => ⟨by omega, go _ _ (by omega)⟩, fun h3 => by omega⟩, fun h2 => ⟨fun h3 => by omega, fun h3 => ⟨by omega, go _ _ (by omega)⟩⟩⟩, fun h1 => ⟨fun h2 => ⟨fun h3 => ⟨by omega, go _ _ (by omega)⟩, fun h3 => by omega⟩, fun h2 => ⟨fun h3 => by omega, fun h3 => ⟨by omega, go _ _ (by omega)⟩⟩⟩⟩
    · have hCi := hC i (by omega)
      rw [Int.toNat_natCast]
      have go : ∀ (w : Int) m', (∀ k, k ≠ 9 → m' k = m k) → w = max 0 (min (((i + 1 : Nat) : Int) - 1) hi - max lo z' + 1) → ∃ n' : Nat, n' < (61 - k) * 102 + (100 - i) ∧ (0 : Nat) = 0 ∧ rl_J54 mem c v2 lo hi (max 0 (hi - lo + 1)) n' c v2 (max 0 (hi - lo + 1)) v4 v5 (10 + (k : Int)) w ((i : Int) + 1) m' := fun w m' hm' hw =>
        ⟨(61 - k) * 102 + (100 - (i + 1)), by omega, rfl, rfl, rfl, rfl, fun j h1 h2 => by rw [hm' j h1, hU j h1 h2], fun j hj => by rw [hm' 16 (by omega)]; exact hC j hj, k, i + 1, z', rfl, hk, hbk, hz', by omega, by omega, hw, rfl⟩
      refine ⟨by omega, fun h1 => ⟨by omega, by omega, go _ m (fun _ _ => rfl) ?_⟩, fun h1 => am_cq (mp_wouldHold hR hU hc ⟨by omega, by omega⟩ (by omega) (by omega)) ?_⟩
      · have : ¬ (lo ≤ (i : Int) ∧ (i : Int) ≤ hi) := fun q => hCi.mpr q h1
        omega
      · rintro w m' ⟨q1, q2⟩
        have hl := hCi.mp h1
        have hw := hz'.2.2 i (by omega) (by omega)
        refine ⟨fun h2 => ⟨by omega, by omega, go _ m' q1 ?_⟩, fun h2 => ⟨by omega, by omega, go _ m' q1 ?_⟩⟩
        · have : ¬ z' ≤ (i : Int) := fun q => by
            rcases q2 with ⟨p1, p2⟩ | ⟨p1, p2⟩
            · omega
            · exact p1 (hw.mpr q)
          omega
        · have : z' ≤ (i : Int) := by
            rcases q2 with ⟨p1, p2⟩ | ⟨p1, p2⟩
            · exact hw.mp p1
            · exact absurd p2 h2
          omega
theorem op_tries {c u : Int} (hR : rl_R t mem mem) : am_Mt l g 72 [.inr (.inl 17), .inl c, .inl u] mem (rl_Q1 l g 148 [.inr (.inl 0), .inl c, .inl u] t) := by
  have R1 := rl_R1 hR
  have hX := hR.1
  have h4 := hX.1.2.2.2.1
  have b4 := hR.2.1.2.2.2.1
  have hs := hR.2.2.2.2.2.1.1
  refine fm_X9_tries (fun n v1 v2 v3 v4 v5 v6 v7 v8 m => m = mem ∧ ∃ (d k : Nat) (lo hi : Int), c = d ∧ v1 = d ∧ (d : Int) < mem 29 4 ∧ v2 = u ∧ (0 ≤ u ∧ u ≤ 30) ∧ v3 = lo ∧ v4 = hi ∧ (0 ≤ lo ∧ lo ≤ 100) ∧ (-1 ≤ hi ∧ hi ≤ 99) ∧ (∀ ti, 0 ≤ ti → ti ≤ 99 → (rl_ft mem d (mem 46 4).toNat ti ↔ lo ≤ ti ∧ ti ≤ hi)) ∧ v5 = max 0 (hi - lo + 1) ∧ v8 = 10 + (k : Int) ∧ k ≤ 61 ∧ rl_bst mem d u lo hi (max 0 (hi - lo + 1)) k v6 v7 ∧ n = 61 - k) (am_cbn (sp_hasCord h4.2) (fun h1 => am_cbn (sp_isGust u) (fun h2 => ?_) (fun h2 => ?_)) (fun h1 => ?_)) ?_
  · obtain ⟨d, rfl⟩ : ∃ d : Nat, c = d := ⟨c.toNat, by omega⟩
    refine am_cq (sp_leastTight hX hs h1.2) ?_
    rintro lo m ⟨rfl, hl, hl', hlo⟩
    refine am_cq (sp_mostTight hX hs h1.2) ?_
    rintro hi m2 ⟨rfl, hh, hh', hhi⟩
    refine ⟨by omega, by omega, am_cl (sp_max _ _) ⟨61, rfl, rfl, d, 0, lo, hi, rfl, rfl, h1.2, rfl, h2, rfl, rfl, ⟨hl, hl'⟩, ⟨hh, hh'⟩, fun ti t0 t9 => ?_, rfl, rfl, by omega, ⟨rfl, rfl⟩, rfl⟩⟩
    unfold rl_ft; rw [hlo ti t0 t9, hhi ti t0 t9]
  · exact fm_X10_tries (fun _ _ _ _ _ _ _ _ => False) (fun _ _ _ _ _ _ _ _ _ _ => False) (am_cbn (mp_isCord (by omega) (by omega)) (fun _ => am_cbn (mp_in u 0 30) (fun h => absurd h h2) (fun _ => ⟨rfl, R1⟩)) (fun h => absurd ⟨h1.1, by omega⟩ h)) (fun _ _ _ _ _ _ _ _ h => h.elim) (fun _ _ _ _ _ _ _ _ _ _ h => h.elim)
  · exact fm_X10_tries (fun _ _ _ _ _ _ _ _ => False) (fun _ _ _ _ _ _ _ _ _ _ => False) (am_cbn (mp_isCord (by omega) (by omega)) (fun h => absurd ⟨h.1, by omega⟩ h1) (fun _ => ⟨rfl, R1⟩)) (fun _ _ _ _ _ _ _ _ h => h.elim) (fun _ _ _ _ _ _ _ _ _ _ h => h.elim)
  · rintro n v1 v2 v3 v4 v5 v6 v7 v8 m ⟨rfl, d, k, lo, hi, rfl, rfl, hc, rfl, hu, rfl, rfl, hlo, hhi, hf, rfl, rfl, hk, hb, rfl⟩
    refine ⟨fun h => ?_, fun h => am_cq (sp_tightToHold hX hc (by omega) (by omega)) ?_⟩
    · have e : k = 61 := by omega
      subst e
      exact mp_tries hR hc hu hlo hhi hf hb
    · rintro z m' ⟨rfl, hz⟩
      have z0 := hz.1
      have z1 := hz.2.1
      have hct : rl_ct v3 v4 (max 0 (v4 - v3 + 1)) z = max (max 0 (v4 - max v3 z + 1)) (max 0 (v4 - v3 + 1) - max 0 (v4 - max v3 z + 1)) := rfl
      refine am_cl (sp_max _ _) ⟨by omega, by omega, am_cl (sp_max _ _) ⟨by omega, am_cl (sp_max _ _) ⟨fun h1 => ⟨by omega, 61 - (k + 1), by omega, rfl, rfl, d, k + 1, v3, v4, rfl, rfl, hc, rfl, hu, rfl, rfl, hlo, hhi, hf, rfl, by omega, by omega, ⟨v6, v7, z, hb, hz, Or.inr ⟨by omega, rfl, rfl⟩⟩, rfl⟩, fun h1 => ⟨by omega, 61 - (k + 1), by omega, rfl, rfl, d, k + 1, v3, v4, rfl, rfl, hc, rfl, hu, rfl, rfl, hlo, hhi, hf, rfl, by omega, by omega, ⟨v6, v7, z, hb, hz, Or.inl ⟨by omega, rfl, rfl⟩⟩, rfl⟩⟩⟩⟩
end OPI
