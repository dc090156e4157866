/-! The state of class and reference together, as numbers; the cells that hold it -/
abbrev Sg : Type := (Nat → Int32) × (Nat → Nat → Int32) × (Nat → Nat → Int64) × (Nat → Bool) × Option Nat × Nat × (Nat × (Nat → Int32))
/-- numbers in fields (64 times the object, and the field), rows of numbers, rows of longs, which of two, what is read, how often was thrown, the script -/
abbrev sI (σ : Sg) : Nat → Int32 := σ.1
abbrev sA (σ : Sg) : Nat → Nat → Int32 := σ.2.1
abbrev sL (σ : Sg) : Nat → Nat → Int64 := σ.2.2.1
abbrev sB (σ : Sg) : Nat → Bool := σ.2.2.2.1
abbrev sR (σ : Sg) : Option Nat := σ.2.2.2.2.1
abbrev sT (σ : Sg) : Nat := σ.2.2.2.2.2.1
abbrev sX (σ : Sg) : Nat × (Nat → Int32) := σ.2.2.2.2.2.2
def uI (σ : Sg) (n : Nat) (x : Int32) : Sg := (upd σ.1 n x, σ.2)
def uA (σ : Sg) (a i : Nat) (x : Int32) : Sg := (σ.1, (fun b => if b = a then upd (σ.2.1 a) i x else σ.2.1 b), σ.2.2)
def uL (σ : Sg) (a i : Nat) (x : Int64) : Sg := (σ.1, σ.2.1, (fun b => if b = a then vp_updL (σ.2.2.1 a) i x else σ.2.2.1 b), σ.2.2.2)
def uB (σ : Sg) (n : Nat) (x : Bool) : Sg := (σ.1, σ.2.1, σ.2.2.1, (fun b => if b = n then x else σ.2.2.2.1 b), σ.2.2.2.2)
def uR (σ : Sg) (x : Option Nat) : Sg := (σ.1, σ.2.1, σ.2.2.1, σ.2.2.2.1, x, σ.2.2.2.2.2)
def uT (σ : Sg) : Sg := (σ.1, σ.2.1, σ.2.2.1, σ.2.2.2.1, σ.2.2.2.2.1, σ.2.2.2.2.2.1 + 1, σ.2.2.2.2.2.2)
/-- the two fleets (false: now, true: trial) and their rows; the two rules and theirs; the reference's two rules' texts -/
def fo (w : Bool) : Nat := bif w then 23 else 5
def fa (w : Bool) (k : Nat) : Nat := bif w then 24 + k else 10 + k
def fi (w : Bool) (k : Nat) : Nat := bif w then 1472 + k else 320 + k
def fb (w : Bool) : Nat := bif w then 1 else 0
def ro (u : Bool) : Nat := bif u then 46 else 6
def ra (u : Bool) (k : Nat) : Nat := bif u then 47 + k else 7 + k
def ri (u : Bool) (k : Nat) : Nat := bif u then 2944 + k else 384 + k
def mr (u : Bool) : Nat := bif u then 58 else 57
def mkC (σ : Sg) : List ax_E := [.inr (8, [.ref 1, .ref 3, .ref 5, .ref 23, .ref 37, .ref 40, .ref 43, .ref 44, .ref (ro (sB σ 2))]),
  .inr (6, [.ref 2, .int (sI σ 65), .int (sI σ 66), .int (sI σ 67)]),
  .inl (.char, 80, .inl (sA σ 2)),
  .inr (0, [.ref 4, .int (sI σ 193)]),
  .inl (.char, 30, .inl (sA σ 4)),
  .inr (2, [.ref 3, .ref (ro (sB σ 0)), .int (sI σ 322), .int (sI σ 323), .int (sI σ 324), .int (sI σ 325), .ref 10, .ref 11, .ref 12, .ref 13, .ref 14, .ref 15, .ref 16, .ref 17, .int (sI σ 334), .ref 18, .ref 19, .ref 20, .ref 21, .ref 22]),
  .inr (5, [.ref 1, .ref 7, .ref 8, .ref 9, .int (sI σ 388), .int (sI σ 389)]),
  .inl (.int, 40, .inl (sA σ 7)),
  .inl (.int, 40, .inl (sA σ 8)),
  .inl (.int, 6, .inl (sA σ 9)),
  .inl (.int, 4, .inl (sA σ 10)),
  .inl (.int, 4, .inl (sA σ 11)),
  .inl (.int, 4, .inl (sA σ 12)),
  .inl (.boolean, 4, .inl (sA σ 13)),
  .inl (.int, 4, .inl (sA σ 14)),
  .inl (.int, 4, .inl (sA σ 15)),
  .inl (.int, 4, .inl (sA σ 16)),
  .inl (.int, 4, .inl (sA σ 17)),
  .inl (.int, 9, .inl (sA σ 18)),
  .inl (.int, 9, .inl (sA σ 19)),
  .inl (.boolean, 9, .inl (sA σ 20)),
  .inl (.int, 9, .inl (sA σ 21)),
  .inl (.int, 9, .inl (sA σ 22)),
  .inr (2, [.ref 3, .ref (ro (sB σ 1)), .int (sI σ 1474), .int (sI σ 1475), .int (sI σ 1476), .int (sI σ 1477), .ref 24, .ref 25, .ref 26, .ref 27, .ref 28, .ref 29, .ref 30, .ref 31, .int (sI σ 1486), .ref 32, .ref 33, .ref 34, .ref 35, .ref 36]),
  .inl (.int, 4, .inl (sA σ 24)),
  .inl (.int, 4, .inl (sA σ 25)),
  .inl (.int, 4, .inl (sA σ 26)),
  .inl (.boolean, 4, .inl (sA σ 27)),
  .inl (.int, 4, .inl (sA σ 28)),
  .inl (.int, 4, .inl (sA σ 29)),
  .inl (.int, 4, .inl (sA σ 30)),
  .inl (.int, 4, .inl (sA σ 31)),
  .inl (.int, 9, .inl (sA σ 32)),
  .inl (.int, 9, .inl (sA σ 33)),
  .inl (.boolean, 9, .inl (sA σ 34)),
  .inl (.int, 9, .inl (sA σ 35)),
  .inl (.int, 9, .inl (sA σ 36)),
  .inr (4, [.ref 38, .ref 39, .int (sI σ 2370), .int (sI σ 2371)]),
  .inl (.int, 660, .inl (sA σ 38)),
  .inl (.boolean, 2, .inl (sA σ 39)),
  .inr (3, [.ref 41, .ref 42, .int (sI σ 2562)]),
  .inl (.int, 12, .inl (sA σ 41)),
  .inl (.int, 12, .inl (sA σ 42)),
  .inr (1, [.int (sI σ 2752)]),
  .inr (7, [.ref 45, .int (sI σ 2817)]),
  .inl (.long, 9, .inr (.inl (sL σ 45))),
  .inr (5, [.ref 1, .ref 47, .ref 48, .ref 49, .int (sI σ 2948), .int (sI σ 2949)]),
  .inl (.int, 40, .inl (sA σ 47)),
  .inl (.int, 40, .inl (sA σ 48)),
  .inl (.int, 6, .inl (sA σ 49)),
  .inr (9, [.ref 51, .int (sI σ 3201), .int (sI σ 3202), .int (sI σ 3203), .ref 52, .ref 53, .ref 54, .int (sI σ 3207), .ref 55, .int (sI σ 3209), .int (sI σ 3210), va_rf (sR σ), .int (sI σ 3212), .int (sI σ 3213), .int (sI σ 3214), .int (sI σ 3215), .ref 56, .ref (mr (sB σ 3)), .ref 58, .int (sI σ 3219), .int (sI σ 3220), .ref 59, .ref 60, .int (sI σ 3223), .ref 61, .ref 62, .ref 63, .ref 64, .ref 65, .int (sI σ 3229), .int (sI σ 3230), .ref 66, .ref 67, .int (sI σ 3233), .ref 68, .ref 69, .int (sI σ 3236), .ref 70, .int (sI σ 3238), .int (sI σ 3239), .ref 71, .ref 72, .ref 73]),
  .inl (.int, 44, .inl (sA σ 51)),
  .inl (.int, 30, .inl (sA σ 52)),
  .inl (.int, 9, .inl (sA σ 53)),
  .inl (.byte, 80, .inl (sA σ 54)),
  .inl (.long, 16, .inr (.inl (sL σ 55))),
  .inl (.int, 57, .inl (sA σ 56)),
  .inl (.byte, 40, .inl (sA σ 57)),
  .inl (.byte, 40, .inl (sA σ 58)),
  .inl (.int, 6, .inl (sA σ 59)),
  .inl (.int, 528, .inl (sA σ 60)),
  .inl (.int, 44, .inl (sA σ 61)),
  .inl (.int, 44, .inl (sA σ 62)),
  .inl (.int, 4, .inl (sA σ 63)),
  .inl (.int, 4, .inl (sA σ 64)),
  .inl (.int, 9, .inl (sA σ 65)),
  .inl (.int, 240, .inl (sA σ 66)),
  .inl (.int, 4, .inl (sA σ 67)),
  .inl (.int, 12, .inl (sA σ 68)),
  .inl (.int, 12, .inl (sA σ 69)),
  .inl (.boolean, 3721, .inl (sA σ 70)),
  .inl (.int, 88, .inl (sA σ 71)),
  .inl (.boolean, 2, .inl (sA σ 72)),
  .inl (.int, 2, .inl (sA σ 73)),
  .inl (.long, 1, .inr (.inl (sL σ 74)))]
def mkH (σ : Sg) : ax_H := (mkC σ, (75 + sT σ, 6288 + 6 * sT σ), sX σ)
/-- the reference's two rows of a state (false: now, true: then) -/
def ma (v : Bool) : Nat := bif v then 62 else 51
/-- a row laid over another's beginning -/
def uC (σ : Sg) (a b n : Nat) : Sg := (σ.1, (fun c => if c = b then va_cpy (σ.2.1 a) (σ.2.1 b) 0 0 n else σ.2.1 c), σ.2.2)
theorem ax_thr (σ : Sg) {j pc i len r2 r3 : Nat} (h : mkH (uT σ) = ((mkH σ).1, ((mkH σ).2.1.1 + 1, (mkH σ).2.1.2 + 6), (mkH σ).2.2)) : ax_fin j (pc, .new i, len, 990, r2, r3) [] (mkH σ) = some (mkH (uT σ), none) := by
  rw [h]; rfl
theorem mk_read {σ : Sg} {n : Nat} (h : sR σ = some n) : mkH σ = mkH (uR σ (some n)) := by
  obtain ⟨a, b, c, e, r, t⟩ := σ
  have h : r = some n := h
  subst h
  rfl
