def am_all (P : Nat → List Nat → Prop) : List (Nat × List Nat) → Prop
  | [] => True
  | q :: r => P q.1 q.2 ∧ am_all P r
theorem am_cuts (P : Nat → List Nat → Prop) : ∀ (cut : List (Nat × List Nat)), am_all P cut → ∀ pc keep, am_cget cut pc = some keep → P pc keep
  | [], _, pc, keep, h => by cases h
  | q :: r, ⟨h1, h2⟩, pc, keep, h => by
    unfold am_cget at h
    cases hb : Nat.beq pc q.1 with
    | true =>
      rw [hb] at h
      have := am_beq hb
      subst this
      cases h
      exact h1
    | false =>
      rw [hb] at h
      exact am_cuts P r h2 pc keep h
