/-! THE WORLDS at the start, as memories -/
def sr_1 : sr_M := (fun k => if k = 8 then (upd (upd (upd (upd (upd (upd (fun _ => 0) 0 (-1)) 1 (-1)) 2 (-1)) 3 (-1)) 4 (-1)) 5 (-1)) else fun _ => 0, fun _ _ => 0, fun _ _ => 0)
def sr_aY (q : Nat) (a : Nat → Nat) : Nat → Nat
  | 0 => q
  | k + 1 => a k
def sr_tY (t : Nat → ClassId) : Nat → ClassId := fun k => t (k - 1)
set_option maxRecDepth 100000 in
theorem sr_1_w (q : Nat) (a : Nat → Nat) (t : Nat → ClassId) : iw5 q a t = sr_w (sr_aY q a) (ycf (sr_tY t) (sr_aY q a)) 26 sr_1 := rfl
theorem sr_1_t (t : Nat → ClassId) : it5 t = yty (sr_tY t) := rfl
theorem sr_1_rel : Rel sr_0 sr_1 := by
  refine Rel.start (fun c hc => ?_) (fun q hq => ?_)
  · rcases (show c = 0 ∨ c = 1 ∨ c = 2 ∨ c = 3 ∨ c = 4 ∨ c = 5 by omega) with rfl | rfl | rfl | rfl | rfl | rfl <;> rfl
  · show (if q = 8 then _ else fun _ => (0 : Int32)) = _
    rw [if_neg hq]
