/-- how many edges a frame has in its first rows -/
def ecs (w : Wf) (C f fb : Nat) : Nat → Nat
  | 0 => 0
  | r + 1 => ecs w C f fb r + pc (edf w C f r fb) 17
theorem ecs_le (w : Wf) (C f fb : Nat) : ∀ r, ecs w C f fb r ≤ 17 * r
  | 0 => Nat.le_refl _
  | r + 1 => by
    have := ecs_le w C f fb r
    have := pc_le (edf w C f r fb) 17
    unfold ecs
    omega
