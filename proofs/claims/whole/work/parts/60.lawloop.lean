/-! the law's loop: behind each turn class and reference stand for one state -/
def lw_K (L n : Nat) : Nat → List am_AV → am_Mem → Prop := fun pc vs mem => pc = 18 ∧ ∃ i : Nat, vs = [.inr (.inl 65), .inr (.inl 17), .inr (.inl 0), .inl ((5 * i : Nat) : Int)] ∧ 5 * i ≤ L ∧ i + n = 65 ∧ rl_R (i : Int) mem mem
def lw_one : am_Po := fun z _ => z = 1
theorem lw_fin {L n k : Nat} {i t z z' : Int} {mem : am_Mem} (hi : i = ((5 * k : Nat) : Int)) (ht : t = (k : Int)) (hL : L ≤ 320) (hk : i ≤ (L : Int) - 5) (hn : k + (n + 1) = 65) (h : rl_Q2 t z z' mem) :
    ((z = z' → ((-2147483648 ≤ (i + (5 : Int)) ∧ (i + (5 : Int)) ≤ 2147483647) ∧ lw_K L n 18 [.inr (.inl 65), .inr (.inl 17), .inr (.inl 0), .inl (i + (5 : Int))] mem)) ∧ (¬ z = z' → (((0 : Int) = 0 ∨ (0 : Int) = 1) ∧ lw_one (0 : Int) mem))) := by
  obtain ⟨h1, h2⟩ := h
  refine ⟨fun _ => ⟨⟨by omega, by omega⟩, rfl, k + 1, ?_, by omega, by omega, ?_⟩, fun h => absurd h1.symm h⟩
  · rw [show i + (5 : Int) = ((5 * (k + 1) : Nat) : Int) by omega]
  · rw [show ((k + 1 : Nat) : Int) = t + 1 by omega]; exact h2
set_option maxRecDepth 100000 in
set_option maxHeartbeats 8000000 in
theorem lw_head {l : Launch} {g : am_G} {L n k : Nat} {f : Nat → Int} {i t : Int} {mem : am_Mem} (hi : i = ((5 * k : Nat) : Int)) (ht : t = (k : Int)) (hL : L ≤ 320) (hn : k + (n + 1) = 65) (hf : ∀ j, am_inR (f j)) (hR : rl_R t mem mem) :
    am_wp am_SH (lw_rom L f) (am_Mt l g) true (am_tb 1086 am_T_law) [(18, [0, 1, 2, 3])] (lw_K L n) lw_one 90 18 [(0, .inr (.inl 65)), (1, .inr (.inl 17)), (2, .inr (.inl 0)), (3, .inl i)] [] mem := by
  refine fm_law ⟨⟨by omega, by omega⟩, fun _ => ⟨Or.inr rfl, rfl⟩, fun hk => ?_⟩
  have hF := fun {z z' : Int} {m : am_Mem} (h : rl_Q2 t z z' m) => lw_fin (n := n) hi ht hL hk hn h
  have b1 : -2147483648 ≤ (i + (1 : Int)) ∧ (i + (1 : Int)) ≤ 2147483647 := ⟨by omega, by omega⟩
  have b2 : -2147483648 ≤ (i + (2 : Int)) ∧ (i + (2 : Int)) ≤ 2147483647 := ⟨by omega, by omega⟩
  have b3 : -2147483648 ≤ (i + (3 : Int)) ∧ (i + (3 : Int)) ≤ 2147483647 := ⟨by omega, by omega⟩
  have b4 : -2147483648 ≤ (i + (4 : Int)) ∧ (i + (4 : Int)) ≤ 2147483647 := ⟨by omega, by omega⟩
  have c1 : 0 ≤ (i + (1 : Int)) ∧ (i + (1 : Int)) < (L : Int) := ⟨by omega, by omega⟩
  have c2 : 0 ≤ (i + (2 : Int)) ∧ (i + (2 : Int)) < (L : Int) := ⟨by omega, by omega⟩
  have c3 : 0 ≤ (i + (3 : Int)) ∧ (i + (3 : Int)) < (L : Int) := ⟨by omega, by omega⟩
  have c4 : 0 ≤ (i + (4 : Int)) ∧ (i + (4 : Int)) < (L : Int) := ⟨by omega, by omega⟩
  refine ⟨⟨by omega, by omega⟩, Or.inr rfl, fun h => absurd h (by omega), ?_, ?_, ?_, ?_, ?_, ?_, ?_, ?_, ?_, ?_, ?_, ?_, ?_, ?_, ?_, ?_, ?_, ?_, ?_, ?_, ?_, ?_, ?_, ?_, ?_, ?_, ?_, ?_, ?_, ?_, ?_, ?_, fun h => absurd h (by omega)⟩
  · intro _
    exact ⟨b1, c1, _, op_feed hR, fun z m hz => ⟨b1, c1, _, hz, fun z2 m2 h2 => hF h2⟩⟩
  · intro _
    exact ⟨_, op_trip hR, fun z m hz => ⟨_, hz, fun z2 m2 h2 => hF h2⟩⟩
  · intro _
    exact ⟨_, op_fault hR, fun z m hz => ⟨_, hz, fun z2 m2 h2 => hF h2⟩⟩
  · intro _
    exact ⟨b1, c1, _, op_told hR, fun z m hz => ⟨b1, c1, _, hz, fun z2 m2 h2 => hF h2⟩⟩
  · intro _
    exact ⟨b1, c1, b2, c2, _, op_cord hR, fun z m hz => ⟨b1, c1, b2, c2, _, hz, fun z2 m2 h2 => hF h2⟩⟩
  · intro _
    exact ⟨b1, c1, b2, c2, _, op_road hR, fun z m hz => ⟨b1, c1, b2, c2, _, hz, fun z2 m2 h2 => hF h2⟩⟩
  · intro _
    exact ⟨b1, c1, b2, c2, b3, c3, _, op_lift hR, fun z m hz => ⟨b1, c1, b2, c2, b3, c3, _, hz, fun z2 m2 h2 => hF h2⟩⟩
  · intro _
    exact ⟨b1, c1, b2, c2, _, op_drive hR (by omega), fun z m hz => ⟨b1, c1, b2, c2, _, hz, fun z2 m2 h2 => hF h2⟩⟩
  · intro _
    exact ⟨_, op_stop hR, fun z m hz => ⟨_, hz, fun z2 m2 h2 => hF h2⟩⟩
  · intro _
    exact ⟨b1, c1, _, op_rain hR, fun z m hz => ⟨b1, c1, _, hz, fun z2 m2 h2 => hF h2⟩⟩
  · intro _
    exact ⟨b1, c1, b2, c2, _, op_runs hR, fun z m hz => ⟨b1, c1, b2, c2, _, hz, fun z2 m2 h2 => hF h2⟩⟩
  · intro _
    exact ⟨_, op_pick hR, fun z m hz => ⟨_, hz, fun z2 m2 h2 => hF h2⟩⟩
  · intro _
    exact ⟨b1, c1, b2, c2, _, op_drift hR (by omega), fun z m hz => ⟨b1, c1, b2, c2, _, hz, fun z2 m2 h2 => hF h2⟩⟩
  · intro _
    exact ⟨b1, c1, _, op_undo hR, fun z m hz => ⟨b1, c1, _, hz, fun z2 m2 h2 => hF h2⟩⟩
  · intro _
    exact ⟨b1, c1, _, op_highest hR, fun z m hz => ⟨b1, c1, _, hz, fun z2 m2 h2 => hF h2⟩⟩
  · intro _
    exact ⟨b1, c1, b2, c2, _, op_slack hR, fun z m hz => ⟨b1, c1, b2, c2, _, hz, fun z2 m2 h2 => hF h2⟩⟩
  · intro _
    exact ⟨b1, c1, b2, c2, _, op_far hR, fun z m hz => ⟨b1, c1, b2, c2, _, hz, fun z2 m2 h2 => hF h2⟩⟩
  · intro _
    exact ⟨b1, c1, b2, c2, _, op_stops hR (by omega), fun z m hz => ⟨b1, c1, b2, c2, _, hz, fun z2 m2 h2 => hF h2⟩⟩
  · intro _
    exact ⟨b1, c1, _, op_soonest hR (by omega), fun z m hz => ⟨b1, c1, _, hz, fun z2 m2 h2 => hF h2⟩⟩
  · intro _
    exact ⟨b1, c1, b2, c2, _, op_where hR, fun z m hz => ⟨b1, c1, b2, c2, _, hz, fun z2 m2 h2 => hF h2⟩⟩
  · intro _
    exact ⟨b1, c1, b2, c2, _, op_hand hR, fun z m hz => ⟨b1, c1, b2, c2, _, hz, fun z2 m2 h2 => hF h2⟩⟩
  · intro _
    exact ⟨b1, c1, b2, c2, b3, c3, _, op_van hR, fun z m hz => ⟨b1, c1, b2, c2, b3, c3, _, hz, fun z2 m2 h2 => hF h2⟩⟩
  · intro _
    exact ⟨b1, c1, b2, c2, _, op_knots hR, fun z m hz => ⟨b1, c1, b2, c2, _, hz, fun z2 m2 h2 => hF h2⟩⟩
  · intro _
    refine ⟨b1, c1, b2, c2, b3, c3, b4, c4, fun h0 => ⟨_, op_see hR (Or.inl rfl), fun z m hz => ⟨b1, c1, b2, c2, b3, c3, b4, c4, fun _ => ⟨_, hz, fun z2 m2 h2 => hF h2⟩, fun h1 => absurd h0 h1⟩⟩, fun h0 => ⟨_, op_see hR (Or.inr rfl), fun z m hz => ⟨b1, c1, b2, c2, b3, c3, b4, c4, fun h1 => absurd h1 h0, fun _ => ⟨_, hz, fun z2 m2 h2 => hF h2⟩⟩⟩⟩
  · intro _
    exact ⟨b1, c1, b2, c2, _, op_was hR, fun z m hz => ⟨b1, c1, b2, c2, _, hz, fun z2 m2 h2 => hF h2⟩⟩
  · intro _
    exact ⟨b1, c1, b2, c2, _, op_tries hR, fun z m hz => ⟨b1, c1, b2, c2, _, hz, fun z2 m2 h2 => hF h2⟩⟩
  · intro _
    exact ⟨b1, c1, b2, c2, _, op_write hR, fun z m hz => ⟨b1, c1, b2, c2, _, hz, fun z2 m2 h2 => hF h2⟩⟩
  · intro _
    exact ⟨_, op_judge hR, fun z m hz => ⟨_, hz, fun z2 m2 h2 => hF h2⟩⟩
  · intro _
    exact ⟨_, op_tear hR, fun z m hz => ⟨_, hz, fun z2 m2 h2 => hF h2⟩⟩
  · intro _
    exact ⟨b1, c1, _, op_seed hR (hf _).2, fun z m hz => ⟨b1, c1, _, hz, fun z2 m2 h2 => hF h2⟩⟩
  · intro _
    exact ⟨b1, c1, _, op_keep hR, fun z m hz => ⟨b1, c1, _, hz, fun z2 m2 h2 => hF h2⟩⟩
  · intro _
    exact ⟨b1, c1, _, op_goBack hR, fun z m hz => ⟨b1, c1, _, hz, fun z2 m2 h2 => hF h2⟩⟩
section LWL
variable {p : Program} {l : Launch} {e : Env} {R : Room} {s : State} {m : MethodId} {args : Array Value} {below : List Frame} {meth : Method} {c : Code} {cells slots : Nat} {Qf : State → Prop} {g : am_G} {A : Nat → Prop}
theorem lw_loop {L : Nat} {f : Nat → Int} (hC : am_C p R s m args c cells slots code "RoofMattressLaw" 4 7 g A (lw_rom L f)) (hret : am_Ret p l e R s m args below meth c cells slots Qf code g A false true lw_one) (hL : L ≤ 320) (hf : ∀ j, am_inR (f j)) :
    ∀ (n k : Nat) (mem : am_Mem), 5 * k ≤ L → k + n = 65 → rl_R (k : Int) mem mem → am_J p l e R s m args below meth c cells slots Qf 4 g A 18 [(0, .inr (.inl 65)), (1, .inr (.inl 17)), (2, .inr (.inl 0)), (3, .inl ((5 * k : Nat) : Int))] [] mem
  | 0, k, mem, h1, h2, _ => by omega
  | n + 1, k, mem, h1, h2, hR => by
    refine am_wp_J hC hret am_ok_law (fun pc keep vs mem' hc hK => ?_) 90 18 _ [] mem (lw_head (n := n) rfl rfl hL h2 hf hR)
    obtain ⟨rfl, i, rfl, h3, h4, h5⟩ := hK
    cases hc
    exact lw_loop hC hret hL hf n i mem' h3 h4 h5
end LWL
