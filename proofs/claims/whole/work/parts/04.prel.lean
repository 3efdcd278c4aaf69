def tq_nm {α β : Type} (a : α) (k : α → β) : β := k a
def tq_bd {α β : Type} (x : Option α) (k : α → Option β) : Option β := x.bind k
theorem tq_nm_at {α β : Type} {z e : α} {k : α → β} {r : β} (h : z = e) (hf : tq_nm e k = r) : k z = r := by subst h; exact hf
theorem tq_bd_some {α β : Type} {x : Option α} {k : α → Option β} {r : β} (hf : tq_bd x k = some r) : ∃ u, x = some u ∧ k u = some r := by
  cases x with
  | none => cases hf
  | some u => exact ⟨u, rfl, hf⟩
theorem tq_nb_bool {v : Int32} (h : v = 0 ∨ v = 1) : narrow .boolean (.int v) = .int v := by
  rcases h with rfl | rfl <;> rfl
theorem tq_ft_bool {v : Int32} (h : v = 0 ∨ v = 1) : fits .boolean (.int v) = true := by
  rcases h with rfl | rfl <;> rfl
def sref (a b : Nat) : Nat → Option Nat := va_up (va_up (fun _ => none) 0 (some a)) 1 (some b)
