/-! The makers -/
def s0 (L : Nat) (xs : Nat → Int32) : Sg := (fun n => if n = 193 then 4 else if n = 3201 then 4 else 0, fun a => if a = 4 then upd (upd (upd (upd (fun _ => 0) 0 46) 1 46) 2 46) 3 46 else fun _ => 0, fun _ _ => 0, fun b => if b = 2 then true else false, none, 0, (L, xs))
set_option maxRecDepth 100000 in
set_option maxHeartbeats 4000000 in
theorem ax_make_x {L : Nat} {xs : Nat → Int32} : ∃ H, ax_go (evc 6 200) 7 3 (0, [(0, .ref 1000000)], [], ([], (0, 0), (L, xs))) = some (7, [(0, .ref 1000000)], [.ref 0], H) := ⟨_, rfl⟩
