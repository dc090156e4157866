/-! The law's loop, given what each call brings -/
def OpR (INV : Sg → Prop) (d jc jm : Nat) (Lc Lm : ax_L) (σ : Sg) : Prop := ∃ (σ1 σ2 : Sg) (r : Int32), ev d jc 0 Lc [] (mkH σ) = some (mkH σ1, some (some (.int r))) ∧ ev d jm 0 Lm [] (mkH σ1) = some (mkH σ2, some (some (.int r))) ∧ sX σ1 = sX σ ∧ sX σ2 = sX σ ∧ sT σ2 = sT σ ∧ INV σ2
def OpT (INV : Sg → Prop) (d jc jm : Nat) (Lc Lm : ax_L) (σ : Sg) : Prop := (∃ (σ1 σ2 : Sg) (r : Int32), ev d jc 0 Lc [] (mkH σ) = some (mkH σ1, some (some (.int r))) ∧ ev d jm 0 Lm [] (mkH (uL σ1 74 0 r.toInt64)) = some (mkH σ2, some (some (.int r))) ∧ sX σ1 = sX σ ∧ sX σ2 = sX σ ∧ sT σ2 = sT σ ∧ sI σ2 3210 = 0 ∧ sL σ2 74 0 = r.toInt64 ∧ INV σ2) ∨
  (∃ (σ1 σ2 : Sg) (r : Int32), ev d jc 0 Lc [] (mkH σ) = some (mkH σ1, none) ∧ ev d jm 0 Lm [] (mkH σ1) = some (mkH σ2, some (some (.int r))) ∧ sX σ1 = sX σ ∧ sX σ2 = sX σ ∧ sT σ2 = sT σ + 1 ∧ sI σ2 3210 = 1 ∧ INV σ2)
def OpTL (INV : Sg → Prop) (d jc jm : Nat) (Lc Lm : ax_L) (σ : Sg) : Prop := (∃ (σ1 σ2 : Sg) (r : Int64), ev d jc 0 Lc [] (mkH σ) = some (mkH σ1, some (some (.long r))) ∧ ev d jm 0 Lm [] (mkH (uL σ1 74 0 r)) = some (mkH σ2, some (some (.long r))) ∧ sX σ1 = sX σ ∧ sX σ2 = sX σ ∧ sT σ2 = sT σ ∧ sI σ2 3210 = 0 ∧ sL σ2 74 0 = r ∧ INV σ2) ∨
  (∃ (σ1 σ2 : Sg) (r : Int64), ev d jc 0 Lc [] (mkH σ) = some (mkH σ1, none) ∧ ev d jm 0 Lm [] (mkH σ1) = some (mkH σ2, some (some (.long r))) ∧ sX σ1 = sX σ ∧ sX σ2 = sX σ ∧ sT σ2 = sT σ + 1 ∧ sI σ2 3210 = 1 ∧ INV σ2)
theorem th_eq {d : Nat} {σ : Sg} {x : Int32} (h : sI σ 3210 = x) : ev (d + 1) 9 0 [(0, .ref 50)] [] (mkH σ) = some (mkH σ, some (some (.int x))) := by rw [← h]; exact g_Model_thrown_0
theorem lg_cmp_self {x : Int64} : lg_cmp x x = 0 := by
  have h : ¬ x < x := fun h => absurd (Int64.lt_iff_toInt_lt.mp h) (Int.lt_irrefl _)
  simp [lg_cmp, h]
theorem and63 (x : Int32) : ∃ n : Nat, n < 64 ∧ x &&& 63 = nI n := by
  refine ⟨(x.toBitVec &&& 63#32).toNat, ?_, ?_⟩
  · rw [BitVec.toNat_and]
    exact Nat.lt_of_le_of_lt Nat.and_le_right (by decide)
  · apply Int32.toBitVec_inj.mp
    rw [Int32.toBitVec_and]
    show x.toBitVec &&& 63#32 = BitVec.ofNat 32 (x.toBitVec &&& 63#32).toNat
    rw [BitVec.ofNat_toNat, BitVec.setWidth_eq]
theorem len5 {N : Nat} (h : N ≤ 2560) : (Int32.ofNat N - 5).toInt = (N : Int) - 5 := by
  have h1 : (nI N).toInt = (N : Int) := nI_toInt (by omega)
  have h2 : (Int32.ofNat N - 5).toInt = ((nI N).toInt - 5).bmod (2 ^ 32) := Int32.toInt_sub _ _
  rw [h2, h1]
  exact Int.bmod_eq_of_le (by omega) (by omega)
abbrev Op_sign (D : Nat) (INV : Nat → Sg → Prop) : Prop := ∀ d, D ≤ d → ∀ (k : Nat) (σ : Sg) (a1 : Int32), k < 2560 → INV k σ → OpR (INV (k + 1)) d 216 18 [(0, .ref 0), (1, .int a1)] [(0, .ref 50), (1, .int a1)] σ
abbrev Op_end (D : Nat) (INV : Nat → Sg → Prop) : Prop := ∀ d, D ≤ d → ∀ (k : Nat) (σ : Sg) (a1 : Int32), k < 2560 → INV k σ → OpR (INV (k + 1)) d 217 19 [(0, .ref 0), (1, .int a1)] [(0, .ref 50), (1, .int a1)] σ
abbrev Op_canal (D : Nat) (INV : Nat → Sg → Prop) : Prop := ∀ d, D ≤ d → ∀ (k : Nat) (σ : Sg), k < 2560 → INV k σ → OpR (INV (k + 1)) d 218 31 [(0, .ref 0)] [(0, .ref 50)] σ
abbrev Op_barges (D : Nat) (INV : Nat → Sg → Prop) : Prop := ∀ d, D ≤ d → ∀ (k : Nat) (σ : Sg), k < 2560 → INV k σ → OpR (INV (k + 1)) d 219 35 [(0, .ref 0)] [(0, .ref 50)] σ
abbrev Op_passengers (D : Nat) (INV : Nat → Sg → Prop) : Prop := ∀ d, D ≤ d → ∀ (k : Nat) (σ : Sg), k < 2560 → INV k σ → OpR (INV (k + 1)) d 220 37 [(0, .ref 0)] [(0, .ref 50)] σ
abbrev Op_rule (D : Nat) (INV : Nat → Sg → Prop) : Prop := ∀ d, D ≤ d → ∀ (k : Nat) (σ : Sg), k < 2560 → INV k σ → OpR (INV (k + 1)) d 221 44 [(0, .ref 0)] [(0, .ref 50)] σ
abbrev Op_barge (D : Nat) (INV : Nat → Sg → Prop) : Prop := ∀ d, D ≤ d → ∀ (k : Nat) (σ : Sg) (a1 a2 : Int32), k < 2560 → INV k σ → OpT (INV (k + 1)) d 223 51 [(0, .ref 0), (1, .int a1), (2, .int a2)] [(0, .ref 50), (1, .int a1), (2, .int a2)] σ
abbrev Op_passenger (D : Nat) (INV : Nat → Sg → Prop) : Prop := ∀ d, D ≤ d → ∀ (k : Nat) (σ : Sg) (a1 a2 : Int32), k < 2560 → INV k σ → OpT (INV (k + 1)) d 224 52 [(0, .ref 0), (1, .int a1), (2, .int a2)] [(0, .ref 50), (1, .int a1), (2, .int a2)] σ
abbrev Op_sheet (D : Nat) (INV : Nat → Sg → Prop) : Prop := ∀ d, D ≤ d → ∀ (k : Nat) (σ : Sg) (a1 a2 a3 a4 : Int32), k < 2560 → INV k σ → OpR (INV (k + 1)) d 225 54 [(0, .ref 0), (1, .int a1), (2, .int a2), (3, .int a3), (4, .int a4)] [(0, .ref 50), (1, .int a1), (2, .int a2), (3, .int a3), (4, .int a4)] σ
abbrev Op_hours (D : Nat) (INV : Nat → Sg → Prop) : Prop := ∀ d, D ≤ d → ∀ (k : Nat) (σ : Sg) (a1 : Int32), k < 2560 → INV k σ → OpR (INV (k + 1)) d 228 63 [(0, .ref 0), (1, .int a1)] [(0, .ref 50), (1, .int a1)] σ
abbrev Op_changes (D : Nat) (INV : Nat → Sg → Prop) : Prop := ∀ d, D ≤ d → ∀ (k : Nat) (σ : Sg) (a1 a2 : Int32), k < 2560 → INV k σ → OpR (INV (k + 1)) d 229 65 [(0, .ref 0), (1, .int a1), (2, .int a2)] [(0, .ref 50), (1, .int a1), (2, .int a2)] σ
abbrev Op_wakes (D : Nat) (INV : Nat → Sg → Prop) : Prop := ∀ d, D ≤ d → ∀ (k : Nat) (σ : Sg) (a1 : Int32), k < 2560 → INV k σ → OpR (INV (k + 1)) d 230 66 [(0, .ref 0), (1, .int a1)] [(0, .ref 50), (1, .int a1)] σ
abbrev Op_loads (D : Nat) (INV : Nat → Sg → Prop) : Prop := ∀ d, D ≤ d → ∀ (k : Nat) (σ : Sg) (a1 a2 : Int32), k < 2560 → INV k σ → OpR (INV (k + 1)) d 231 68 [(0, .ref 0), (1, .int a1), (2, .int a2)] [(0, .ref 50), (1, .int a1), (2, .int a2)] σ
abbrev Op_turnsRound (D : Nat) (INV : Nat → Sg → Prop) : Prop := ∀ d, D ≤ d → ∀ (k : Nat) (σ : Sg) (a1 : Int32), k < 2560 → INV k σ → OpR (INV (k + 1)) d 232 70 [(0, .ref 0), (1, .int a1)] [(0, .ref 50), (1, .int a1)] σ
abbrev Op_journey (D : Nat) (INV : Nat → Sg → Prop) : Prop := ∀ d, D ≤ d → ∀ (k : Nat) (σ : Sg), k < 2560 → INV k σ → OpR (INV (k + 1)) d 234 71 [(0, .ref 0)] [(0, .ref 50)] σ
abbrev Op_undo (D : Nat) (INV : Nat → Sg → Prop) : Prop := ∀ d, D ≤ d → ∀ (k : Nat) (σ : Sg), k < 2560 → INV k σ → OpR (INV (k + 1)) d 236 74 [(0, .ref 0)] [(0, .ref 50)] σ
abbrev Op_later (D : Nat) (INV : Nat → Sg → Prop) : Prop := ∀ d, D ≤ d → ∀ (k : Nat) (σ : Sg) (a1 a2 : Int32), k < 2560 → INV k σ → OpR (INV (k + 1)) d 237 76 [(0, .ref 0), (1, .int a1), (2, .int a2)] [(0, .ref 50), (1, .int a1), (2, .int a2)] σ
abbrev Op_arrives (D : Nat) (INV : Nat → Sg → Prop) : Prop := ∀ d, D ≤ d → ∀ (k : Nat) (σ : Sg) (a1 : Int32), k < 2560 → INV k σ → OpR (INV (k + 1)) d 239 78 [(0, .ref 0), (1, .int a1)] [(0, .ref 50), (1, .int a1)] σ
abbrev Op_stops (D : Nat) (INV : Nat → Sg → Prop) : Prop := ∀ d, D ≤ d → ∀ (k : Nat) (σ : Sg) (a1 : Int32), k < 2560 → INV k σ → OpR (INV (k + 1)) d 240 79 [(0, .ref 0), (1, .int a1)] [(0, .ref 50), (1, .int a1)] σ
abbrev Op_nearest (D : Nat) (INV : Nat → Sg → Prop) : Prop := ∀ d, D ≤ d → ∀ (k : Nat) (σ : Sg) (a1 : Int32), k < 2560 → INV k σ → OpR (INV (k + 1)) d 241 80 [(0, .ref 0), (1, .int a1)] [(0, .ref 50), (1, .int a1)] σ
abbrev Op_breath (D : Nat) (INV : Nat → Sg → Prop) : Prop := ∀ d, D ≤ d → ∀ (k : Nat) (σ : Sg) (a1 : Int32), k < 2560 → INV k σ → OpR (INV (k + 1)) d 242 81 [(0, .ref 0), (1, .int a1)] [(0, .ref 50), (1, .int a1)] σ
abbrev Op_meets (D : Nat) (INV : Nat → Sg → Prop) : Prop := ∀ d, D ≤ d → ∀ (k : Nat) (σ : Sg) (a1 a2 : Int32), k < 2560 → INV k σ → OpR (INV (k + 1)) d 243 82 [(0, .ref 0), (1, .int a1), (2, .int a2)] [(0, .ref 50), (1, .int a1), (2, .int a2)] σ
abbrev Op_tires (D : Nat) (INV : Nat → Sg → Prop) : Prop := ∀ d, D ≤ d → ∀ (k : Nat) (σ : Sg) (a1 : Int32), k < 2560 → INV k σ → OpR (INV (k + 1)) d 244 83 [(0, .ref 0), (1, .int a1)] [(0, .ref 50), (1, .int a1)] σ
abbrev Op_near (D : Nat) (INV : Nat → Sg → Prop) : Prop := ∀ d, D ≤ d → ∀ (k : Nat) (σ : Sg) (a1 a2 : Int32), k < 2560 → INV k σ → OpR (INV (k + 1)) d 245 84 [(0, .ref 0), (1, .int a1), (2, .int a2)] [(0, .ref 50), (1, .int a1), (2, .int a2)] σ
abbrev Op_helps (D : Nat) (INV : Nat → Sg → Prop) : Prop := ∀ d, D ≤ d → ∀ (k : Nat) (σ : Sg) (a1 : Int32), k < 2560 → INV k σ → OpR (INV (k + 1)) d 246 85 [(0, .ref 0), (1, .int a1)] [(0, .ref 50), (1, .int a1)] σ
abbrev Op_hastens (D : Nat) (INV : Nat → Sg → Prop) : Prop := ∀ d, D ≤ d → ∀ (k : Nat) (σ : Sg) (a1 : Int32), k < 2560 → INV k σ → OpR (INV (k + 1)) d 248 86 [(0, .ref 0), (1, .int a1)] [(0, .ref 50), (1, .int a1)] σ
abbrev Op_rouses (D : Nat) (INV : Nat → Sg → Prop) : Prop := ∀ d, D ≤ d → ∀ (k : Nat) (σ : Sg) (a1 : Int32), k < 2560 → INV k σ → OpR (INV (k + 1)) d 249 88 [(0, .ref 0), (1, .int a1)] [(0, .ref 50), (1, .int a1)] σ
abbrev Op_evens (D : Nat) (INV : Nat → Sg → Prop) : Prop := ∀ d, D ≤ d → ∀ (k : Nat) (σ : Sg), k < 2560 → INV k σ → OpR (INV (k + 1)) d 250 90 [(0, .ref 0)] [(0, .ref 50)] σ
abbrev Op_seats (D : Nat) (INV : Nat → Sg → Prop) : Prop := ∀ d, D ≤ d → ∀ (k : Nat) (σ : Sg) (a1 : Int32), k < 2560 → INV k σ → OpR (INV (k + 1)) d 251 94 [(0, .ref 0), (1, .int a1)] [(0, .ref 50), (1, .int a1)] σ
abbrev Op_pairs (D : Nat) (INV : Nat → Sg → Prop) : Prop := ∀ d, D ≤ d → ∀ (k : Nat) (σ : Sg) (a1 : Int32), k < 2560 → INV k σ → OpR (INV (k + 1)) d 252 95 [(0, .ref 0), (1, .int a1)] [(0, .ref 50), (1, .int a1)] σ
abbrev Op_holds (D : Nat) (INV : Nat → Sg → Prop) : Prop := ∀ d, D ≤ d → ∀ (k : Nat) (σ : Sg) (a1 a2 : Int32), k < 2560 → INV k σ → OpR (INV (k + 1)) d 255 96 [(0, .ref 0), (1, .int a1), (2, .int a2)] [(0, .ref 50), (1, .int a1), (2, .int a2)] σ
abbrev Op_locks (D : Nat) (INV : Nat → Sg → Prop) : Prop := ∀ d, D ≤ d → ∀ (k : Nat) (σ : Sg) (a1 : Int32), k < 2560 → INV k σ → OpR (INV (k + 1)) d 256 97 [(0, .ref 0), (1, .int a1)] [(0, .ref 50), (1, .int a1)] σ
abbrev Op_onion (D : Nat) (INV : Nat → Sg → Prop) : Prop := ∀ d, D ≤ d → ∀ (k : Nat) (σ : Sg) (a1 a2 : Int32), k < 2560 → INV k σ → OpR (INV (k + 1)) d 257 98 [(0, .ref 0), (1, .int a1), (2, .int a2)] [(0, .ref 50), (1, .int a1), (2, .int a2)] σ
abbrev Op_yawns (D : Nat) (INV : Nat → Sg → Prop) : Prop := ∀ d, D ≤ d → ∀ (k : Nat) (σ : Sg) (a1 a2 : Int32), k < 2560 → INV k σ → OpR (INV (k + 1)) d 258 100 [(0, .ref 0), (1, .int a1), (2, .int a2)] [(0, .ref 50), (1, .int a1), (2, .int a2)] σ
abbrev Op_heard (D : Nat) (INV : Nat → Sg → Prop) : Prop := ∀ d, D ≤ d → ∀ (k : Nat) (σ : Sg) (a1 a2 : Int32), k < 2560 → INV k σ → OpR (INV (k + 1)) d 259 101 [(0, .ref 0), (1, .int a1), (2, .int a2)] [(0, .ref 50), (1, .int a1), (2, .int a2)] σ
abbrev Op_forget (D : Nat) (INV : Nat → Sg → Prop) : Prop := ∀ d, D ≤ d → ∀ (k : Nat) (σ : Sg), k < 2560 → INV k σ → OpR (INV (k + 1)) d 260 102 [(0, .ref 0)] [(0, .ref 50)] σ
abbrev Op_fits (D : Nat) (INV : Nat → Sg → Prop) : Prop := ∀ d, D ≤ d → ∀ (k : Nat) (σ : Sg), k < 2560 → INV k σ → OpR (INV (k + 1)) d 261 105 [(0, .ref 0)] [(0, .ref 50)] σ
abbrev Op_asks (D : Nat) (INV : Nat → Sg → Prop) : Prop := ∀ d, D ≤ d → ∀ (k : Nat) (σ : Sg), k < 2560 → INV k σ → OpR (INV (k + 1)) d 262 106 [(0, .ref 0)] [(0, .ref 50)] σ
abbrev Op_blows (D : Nat) (INV : Nat → Sg → Prop) : Prop := ∀ d, D ≤ d → ∀ (k : Nat) (σ : Sg) (a1 : Int32), k < 2560 → INV k σ → OpR (INV (k + 1)) d 263 108 [(0, .ref 0), (1, .int a1)] [(0, .ref 50), (1, .int a1)] σ
abbrev Op_dozes (D : Nat) (INV : Nat → Sg → Prop) : Prop := ∀ d, D ≤ d → ∀ (k : Nat) (σ : Sg) (a1 a2 a3 : Int32), k < 2560 → INV k σ → OpR (INV (k + 1)) d 264 111 [(0, .ref 0), (1, .int a1), (2, .int a2), (3, .int a3)] [(0, .ref 50), (1, .int a1), (2, .int a2), (3, .int a3)] σ
abbrev Op_rests (D : Nat) (INV : Nat → Sg → Prop) : Prop := ∀ d, D ≤ d → ∀ (k : Nat) (σ : Sg) (a1 : Int32), k < 2560 → INV k σ → OpR (INV (k + 1)) d 265 114 [(0, .ref 0), (1, .int a1)] [(0, .ref 50), (1, .int a1)] σ
abbrev Op_law (D : Nat) (INV : Nat → Sg → Prop) : Prop := ∀ d, D ≤ d → ∀ (k : Nat) (σ : Sg), k < 2560 → INV k σ → OpR (INV (k + 1)) d 266 116 [(0, .ref 0)] [(0, .ref 50)] σ
abbrev Op_years (D : Nat) (INV : Nat → Sg → Prop) : Prop := ∀ d, D ≤ d → ∀ (k : Nat) (σ : Sg) (a1 a2 : Int32), k < 2560 → INV k σ → OpR (INV (k + 1)) d 267 118 [(0, .ref 0), (1, .int a1), (2, .int a2)] [(0, .ref 50), (1, .int a1), (2, .int a2)] σ
abbrev Op_keep (D : Nat) (INV : Nat → Sg → Prop) : Prop := ∀ d, D ≤ d → ∀ (k : Nat) (σ : Sg) (a1 : Int32), k < 2560 → INV k σ → OpR (INV (k + 1)) d 268 119 [(0, .ref 0), (1, .int a1)] [(0, .ref 50), (1, .int a1)] σ
abbrev Op_again (D : Nat) (INV : Nat → Sg → Prop) : Prop := ∀ d, D ≤ d → ∀ (k : Nat) (σ : Sg) (a1 : Int32), k < 2560 → INV k σ → OpR (INV (k + 1)) d 269 120 [(0, .ref 0), (1, .int a1)] [(0, .ref 50), (1, .int a1)] σ
abbrev Op_count (D : Nat) (INV : Nat → Sg → Prop) : Prop := ∀ d, D ≤ d → ∀ (k : Nat) (σ : Sg) (a1 : Int32), k < 2560 → INV k σ → OpR (INV (k + 1)) d 270 122 [(0, .ref 0), (1, .int a1)] [(0, .ref 50), (1, .int a1)] σ
abbrev Op_row (D : Nat) (INV : Nat → Sg → Prop) : Prop := ∀ d, D ≤ d → ∀ (k : Nat) (σ : Sg) (a1 : Int32), k < 2560 → INV k σ → OpTL (INV (k + 1)) d 271 123 [(0, .ref 0), (1, .int a1)] [(0, .ref 50), (1, .int a1)] σ
theorem lw_sign {d : Nat} {σ σ1 σ2 : Sg} {x4 r : Int32} {a1 : Int32} (h1 : ax_ix (x4 + 1) (sX σ).1 = true) (e1 : (sX σ).2 (Int32.toNatClampNeg (x4 + 1)) = a1) (k1 : ev d 216 0 [(0, .ref 0), (1, .int a1)] [] (mkH σ) = some (mkH σ1, some (some (.int r)))) (k2 : ev d 18 0 [(0, .ref 50), (1, .int a1)] [] (mkH σ1) = some (mkH σ2, some (some (.int r)))) (hX : sX σ1 = sX σ) : ev (d + 1) 7 39 [(0, .ref 1000000), (1, .ref 0), (2, .ref 50), (3, .ref 74), (4, .int x4)] [.int 0] (mkH σ) = ev (d + 1) 7 23 [(0, .ref 1000000), (1, .ref 0), (2, .ref 50), (3, .ref 74), (4, .int (x4 + 5))] [] (mkH σ2) := by
  rw [w_Law_law_39_0, g_Law_law_240, h1, cond_true, e1, c_Law_law_247 k1, g_Law_law_250, hX, h1, cond_true, e1, c_Law_law_257 k2, g_Law_law_260, if_pos rfl]
theorem lw_end {d : Nat} {σ σ1 σ2 : Sg} {x4 r : Int32} {a1 : Int32} (h1 : ax_ix (x4 + 1) (sX σ).1 = true) (e1 : (sX σ).2 (Int32.toNatClampNeg (x4 + 1)) = a1) (k1 : ev d 217 0 [(0, .ref 0), (1, .int a1)] [] (mkH σ) = some (mkH σ1, some (some (.int r)))) (k2 : ev d 19 0 [(0, .ref 50), (1, .int a1)] [] (mkH σ1) = some (mkH σ2, some (some (.int r)))) (hX : sX σ1 = sX σ) : ev (d + 1) 7 39 [(0, .ref 1000000), (1, .ref 0), (2, .ref 50), (3, .ref 74), (4, .int x4)] [.int 1] (mkH σ) = ev (d + 1) 7 23 [(0, .ref 1000000), (1, .ref 0), (2, .ref 50), (3, .ref 74), (4, .int (x4 + 5))] [] (mkH σ2) := by
  rw [w_Law_law_39_1, g_Law_law_265, h1, cond_true, e1, c_Law_law_272 k1, g_Law_law_275, hX, h1, cond_true, e1, c_Law_law_282 k2, g_Law_law_285, if_pos rfl]
theorem lw_canal {d : Nat} {σ σ1 σ2 : Sg} {x4 r : Int32}  (k1 : ev d 218 0 [(0, .ref 0)] [] (mkH σ) = some (mkH σ1, some (some (.int r)))) (k2 : ev d 31 0 [(0, .ref 50)] [] (mkH σ1) = some (mkH σ2, some (some (.int r)))) (hX : sX σ1 = sX σ) : ev (d + 1) 7 39 [(0, .ref 1000000), (1, .ref 0), (2, .ref 50), (3, .ref 74), (4, .int x4)] [.int 2] (mkH σ) = ev (d + 1) 7 23 [(0, .ref 1000000), (1, .ref 0), (2, .ref 50), (3, .ref 74), (4, .int (x4 + 5))] [] (mkH σ2) := by
  rw [w_Law_law_39_2, g_Law_law_290, c_Law_law_291 k1, g_Law_law_294, c_Law_law_295 k2, g_Law_law_298, if_pos rfl]
theorem lw_barges {d : Nat} {σ σ1 σ2 : Sg} {x4 r : Int32}  (k1 : ev d 219 0 [(0, .ref 0)] [] (mkH σ) = some (mkH σ1, some (some (.int r)))) (k2 : ev d 35 0 [(0, .ref 50)] [] (mkH σ1) = some (mkH σ2, some (some (.int r)))) (hX : sX σ1 = sX σ) : ev (d + 1) 7 39 [(0, .ref 1000000), (1, .ref 0), (2, .ref 50), (3, .ref 74), (4, .int x4)] [.int 3] (mkH σ) = ev (d + 1) 7 23 [(0, .ref 1000000), (1, .ref 0), (2, .ref 50), (3, .ref 74), (4, .int (x4 + 5))] [] (mkH σ2) := by
  rw [w_Law_law_39_3, g_Law_law_303, c_Law_law_304 k1, g_Law_law_307, c_Law_law_308 k2, g_Law_law_311, if_pos rfl]
theorem lw_passengers {d : Nat} {σ σ1 σ2 : Sg} {x4 r : Int32}  (k1 : ev d 220 0 [(0, .ref 0)] [] (mkH σ) = some (mkH σ1, some (some (.int r)))) (k2 : ev d 37 0 [(0, .ref 50)] [] (mkH σ1) = some (mkH σ2, some (some (.int r)))) (hX : sX σ1 = sX σ) : ev (d + 1) 7 39 [(0, .ref 1000000), (1, .ref 0), (2, .ref 50), (3, .ref 74), (4, .int x4)] [.int 4] (mkH σ) = ev (d + 1) 7 23 [(0, .ref 1000000), (1, .ref 0), (2, .ref 50), (3, .ref 74), (4, .int (x4 + 5))] [] (mkH σ2) := by
  rw [w_Law_law_39_4, g_Law_law_316, c_Law_law_317 k1, g_Law_law_320, c_Law_law_321 k2, g_Law_law_324, if_pos rfl]
theorem lw_rule {d : Nat} {σ σ1 σ2 : Sg} {x4 r : Int32}  (k1 : ev d 221 0 [(0, .ref 0)] [] (mkH σ) = some (mkH σ1, some (some (.int r)))) (k2 : ev d 44 0 [(0, .ref 50)] [] (mkH σ1) = some (mkH σ2, some (some (.int r)))) (hX : sX σ1 = sX σ) : ev (d + 1) 7 39 [(0, .ref 1000000), (1, .ref 0), (2, .ref 50), (3, .ref 74), (4, .int x4)] [.int 5] (mkH σ) = ev (d + 1) 7 23 [(0, .ref 1000000), (1, .ref 0), (2, .ref 50), (3, .ref 74), (4, .int (x4 + 5))] [] (mkH σ2) := by
  rw [w_Law_law_39_5, g_Law_law_329, c_Law_law_330 k1, g_Law_law_333, c_Law_law_334 k2, g_Law_law_337, if_pos rfl]
theorem lw_barge_r {d : Nat} {σ σ1 σ2 : Sg} {x4 : Int32} {r : Int32} {a1 a2 : Int32} (h1 : ax_ix (x4 + 1) (sX σ).1 = true) (e1 : (sX σ).2 (Int32.toNatClampNeg (x4 + 1)) = a1) (h2 : ax_ix (x4 + 2) (sX σ).1 = true) (e2 : (sX σ).2 (Int32.toNatClampNeg (x4 + 2)) = a2) (k1 : ev (d + 1) 223 0 [(0, .ref 0), (1, .int a1), (2, .int a2)] [] (mkH σ) = some (mkH σ1, some (some (.int r)))) (k2 : ev (d + 1) 51 0 [(0, .ref 50), (1, .int a1), (2, .int a2)] [] (mkH (uL σ1 74 0 (r.toInt64))) = some (mkH σ2, some (some (.int r)))) (hX : sX (uL σ1 74 0 (r.toInt64)) = sX σ) (k3 : sI σ2 3210 = 0) (k4 : sL σ2 74 0 = r.toInt64) : ev (d + 1 + 1) 7 39 [(0, .ref 1000000), (1, .ref 0), (2, .ref 50), (3, .ref 74), (4, .int x4)] [.int 6] (mkH σ) = ev (d + 1 + 1) 7 23 [(0, .ref 1000000), (1, .ref 0), (2, .ref 50), (3, .ref 74), (4, .int (x4 + 5))] [] (mkH σ2) := by
  rw [w_Law_law_39_6, g_Law_law_342, h1, cond_true, h2, cond_true, e1, e2, c_Law_law_356_r k1, g_Law_law_359, hX, h1, cond_true, h2, cond_true, e1, e2, c_Law_law_374 k2, g_Law_law_377, c_Law_law_380 (th_eq k3), g_Law_law_383, if_pos rfl, if_pos rfl, show ax_ix 0 1 = true from rfl, cond_true, show Int32.toNatClampNeg 0 = 0 from rfl, k4, lg_cmp_self, if_pos rfl]
theorem lw_barge_t {d : Nat} {σ σ1 σ2 : Sg} {x4 : Int32} {r : Int32} {a1 a2 : Int32} (h1 : ax_ix (x4 + 1) (sX σ).1 = true) (e1 : (sX σ).2 (Int32.toNatClampNeg (x4 + 1)) = a1) (h2 : ax_ix (x4 + 2) (sX σ).1 = true) (e2 : (sX σ).2 (Int32.toNatClampNeg (x4 + 2)) = a2) (k1 : ev (d + 1) 223 0 [(0, .ref 0), (1, .int a1), (2, .int a2)] [] (mkH σ) = some (mkH σ1, none)) (k2 : ev (d + 1) 51 0 [(0, .ref 50), (1, .int a1), (2, .int a2)] [] (mkH σ1) = some (mkH σ2, some (some (.int r)))) (hX : sX σ1 = sX σ) (k3 : sI σ2 3210 = 1) : ev (d + 1 + 1) 7 39 [(0, .ref 1000000), (1, .ref 0), (2, .ref 50), (3, .ref 74), (4, .int x4)] [.int 6] (mkH σ) = ev (d + 1 + 1) 7 23 [(0, .ref 1000000), (1, .ref 0), (2, .ref 50), (3, .ref 74), (4, .int (x4 + 5))] [] (mkH σ2) := by
  rw [w_Law_law_39_6, g_Law_law_342, h1, cond_true, h2, cond_true, e1, e2, c_Law_law_356_t k1, g_Law_law_359, hX, h1, cond_true, h2, cond_true, e1, e2, c_Law_law_374 k2, g_Law_law_377, c_Law_law_380 (th_eq k3), g_Law_law_383, if_pos rfl, if_neg (by decide)]
theorem lw_passenger_r {d : Nat} {σ σ1 σ2 : Sg} {x4 : Int32} {r : Int32} {a1 a2 : Int32} (h1 : ax_ix (x4 + 1) (sX σ).1 = true) (e1 : (sX σ).2 (Int32.toNatClampNeg (x4 + 1)) = a1) (h2 : ax_ix (x4 + 2) (sX σ).1 = true) (e2 : (sX σ).2 (Int32.toNatClampNeg (x4 + 2)) = a2) (k1 : ev (d + 1) 224 0 [(0, .ref 0), (1, .int a1), (2, .int a2)] [] (mkH σ) = some (mkH σ1, some (some (.int r)))) (k2 : ev (d + 1) 52 0 [(0, .ref 50), (1, .int a1), (2, .int a2)] [] (mkH (uL σ1 74 0 (r.toInt64))) = some (mkH σ2, some (some (.int r)))) (hX : sX (uL σ1 74 0 (r.toInt64)) = sX σ) (k3 : sI σ2 3210 = 0) (k4 : sL σ2 74 0 = r.toInt64) : ev (d + 1 + 1) 7 39 [(0, .ref 1000000), (1, .ref 0), (2, .ref 50), (3, .ref 74), (4, .int x4)] [.int 7] (mkH σ) = ev (d + 1 + 1) 7 23 [(0, .ref 1000000), (1, .ref 0), (2, .ref 50), (3, .ref 74), (4, .int (x4 + 5))] [] (mkH σ2) := by
  rw [w_Law_law_39_7, g_Law_law_410, h1, cond_true, h2, cond_true, e1, e2, c_Law_law_424_r k1, g_Law_law_427, hX, h1, cond_true, h2, cond_true, e1, e2, c_Law_law_442 k2, g_Law_law_445, c_Law_law_448 (th_eq k3), g_Law_law_451, if_pos rfl, if_pos rfl, show ax_ix 0 1 = true from rfl, cond_true, show Int32.toNatClampNeg 0 = 0 from rfl, k4, lg_cmp_self, if_pos rfl]
theorem lw_passenger_t {d : Nat} {σ σ1 σ2 : Sg} {x4 : Int32} {r : Int32} {a1 a2 : Int32} (h1 : ax_ix (x4 + 1) (sX σ).1 = true) (e1 : (sX σ).2 (Int32.toNatClampNeg (x4 + 1)) = a1) (h2 : ax_ix (x4 + 2) (sX σ).1 = true) (e2 : (sX σ).2 (Int32.toNatClampNeg (x4 + 2)) = a2) (k1 : ev (d + 1) 224 0 [(0, .ref 0), (1, .int a1), (2, .int a2)] [] (mkH σ) = some (mkH σ1, none)) (k2 : ev (d + 1) 52 0 [(0, .ref 50), (1, .int a1), (2, .int a2)] [] (mkH σ1) = some (mkH σ2, some (some (.int r)))) (hX : sX σ1 = sX σ) (k3 : sI σ2 3210 = 1) : ev (d + 1 + 1) 7 39 [(0, .ref 1000000), (1, .ref 0), (2, .ref 50), (3, .ref 74), (4, .int x4)] [.int 7] (mkH σ) = ev (d + 1 + 1) 7 23 [(0, .ref 1000000), (1, .ref 0), (2, .ref 50), (3, .ref 74), (4, .int (x4 + 5))] [] (mkH σ2) := by
  rw [w_Law_law_39_7, g_Law_law_410, h1, cond_true, h2, cond_true, e1, e2, c_Law_law_424_t k1, g_Law_law_427, hX, h1, cond_true, h2, cond_true, e1, e2, c_Law_law_442 k2, g_Law_law_445, c_Law_law_448 (th_eq k3), g_Law_law_451, if_pos rfl, if_neg (by decide)]
theorem lw_sheet {d : Nat} {σ σ1 σ2 : Sg} {x4 r : Int32} {a1 a2 a3 a4 : Int32} (h1 : ax_ix (x4 + 1) (sX σ).1 = true) (e1 : (sX σ).2 (Int32.toNatClampNeg (x4 + 1)) = a1) (h2 : ax_ix (x4 + 2) (sX σ).1 = true) (e2 : (sX σ).2 (Int32.toNatClampNeg (x4 + 2)) = a2) (h3 : ax_ix (x4 + 3) (sX σ).1 = true) (e3 : (sX σ).2 (Int32.toNatClampNeg (x4 + 3)) = a3) (h4 : ax_ix (x4 + 4) (sX σ).1 = true) (e4 : (sX σ).2 (Int32.toNatClampNeg (x4 + 4)) = a4) (k1 : ev d 225 0 [(0, .ref 0), (1, .int a1), (2, .int a2), (3, .int a3), (4, .int a4)] [] (mkH σ) = some (mkH σ1, some (some (.int r)))) (k2 : ev d 54 0 [(0, .ref 50), (1, .int a1), (2, .int a2), (3, .int a3), (4, .int a4)] [] (mkH σ1) = some (mkH σ2, some (some (.int r)))) (hX : sX σ1 = sX σ) : ev (d + 1) 7 39 [(0, .ref 1000000), (1, .ref 0), (2, .ref 50), (3, .ref 74), (4, .int x4)] [.int 8] (mkH σ) = ev (d + 1) 7 23 [(0, .ref 1000000), (1, .ref 0), (2, .ref 50), (3, .ref 74), (4, .int (x4 + 5))] [] (mkH σ2) := by
  rw [w_Law_law_39_8, g_Law_law_478, h1, cond_true, h2, cond_true, h3, cond_true, h4, cond_true, e1, e2, e3, e4, c_Law_law_503 k1, g_Law_law_506, hX, h1, cond_true, h2, cond_true, h3, cond_true, h4, cond_true, e1, e2, e3, e4, c_Law_law_531 k2, g_Law_law_534, if_pos rfl]
theorem lw_hours {d : Nat} {σ σ1 σ2 : Sg} {x4 r : Int32} {a1 : Int32} (h1 : ax_ix (x4 + 1) (sX σ).1 = true) (e1 : (sX σ).2 (Int32.toNatClampNeg (x4 + 1)) = a1) (k1 : ev d 228 0 [(0, .ref 0), (1, .int a1)] [] (mkH σ) = some (mkH σ1, some (some (.int r)))) (k2 : ev d 63 0 [(0, .ref 50), (1, .int a1)] [] (mkH σ1) = some (mkH σ2, some (some (.int r)))) (hX : sX σ1 = sX σ) : ev (d + 1) 7 39 [(0, .ref 1000000), (1, .ref 0), (2, .ref 50), (3, .ref 74), (4, .int x4)] [.int 9] (mkH σ) = ev (d + 1) 7 23 [(0, .ref 1000000), (1, .ref 0), (2, .ref 50), (3, .ref 74), (4, .int (x4 + 5))] [] (mkH σ2) := by
  rw [w_Law_law_39_9, g_Law_law_539, h1, cond_true, e1, c_Law_law_546 k1, g_Law_law_549, hX, h1, cond_true, e1, c_Law_law_556 k2, g_Law_law_559, if_pos rfl]
theorem lw_changes {d : Nat} {σ σ1 σ2 : Sg} {x4 r : Int32} {a1 a2 : Int32} (h1 : ax_ix (x4 + 1) (sX σ).1 = true) (e1 : (sX σ).2 (Int32.toNatClampNeg (x4 + 1)) = a1) (h2 : ax_ix (x4 + 2) (sX σ).1 = true) (e2 : (sX σ).2 (Int32.toNatClampNeg (x4 + 2)) = a2) (k1 : ev d 229 0 [(0, .ref 0), (1, .int a1), (2, .int a2)] [] (mkH σ) = some (mkH σ1, some (some (.int r)))) (k2 : ev d 65 0 [(0, .ref 50), (1, .int a1), (2, .int a2)] [] (mkH σ1) = some (mkH σ2, some (some (.int r)))) (hX : sX σ1 = sX σ) : ev (d + 1) 7 39 [(0, .ref 1000000), (1, .ref 0), (2, .ref 50), (3, .ref 74), (4, .int x4)] [.int 10] (mkH σ) = ev (d + 1) 7 23 [(0, .ref 1000000), (1, .ref 0), (2, .ref 50), (3, .ref 74), (4, .int (x4 + 5))] [] (mkH σ2) := by
  rw [w_Law_law_39_10, g_Law_law_564, h1, cond_true, h2, cond_true, e1, e2, c_Law_law_577 k1, g_Law_law_580, hX, h1, cond_true, h2, cond_true, e1, e2, c_Law_law_593 k2, g_Law_law_596, if_pos rfl]
theorem lw_wakes {d : Nat} {σ σ1 σ2 : Sg} {x4 r : Int32} {a1 : Int32} (h1 : ax_ix (x4 + 1) (sX σ).1 = true) (e1 : (sX σ).2 (Int32.toNatClampNeg (x4 + 1)) = a1) (k1 : ev d 230 0 [(0, .ref 0), (1, .int a1)] [] (mkH σ) = some (mkH σ1, some (some (.int r)))) (k2 : ev d 66 0 [(0, .ref 50), (1, .int a1)] [] (mkH σ1) = some (mkH σ2, some (some (.int r)))) (hX : sX σ1 = sX σ) : ev (d + 1) 7 39 [(0, .ref 1000000), (1, .ref 0), (2, .ref 50), (3, .ref 74), (4, .int x4)] [.int 11] (mkH σ) = ev (d + 1) 7 23 [(0, .ref 1000000), (1, .ref 0), (2, .ref 50), (3, .ref 74), (4, .int (x4 + 5))] [] (mkH σ2) := by
  rw [w_Law_law_39_11, g_Law_law_601, h1, cond_true, e1, c_Law_law_608 k1, g_Law_law_611, hX, h1, cond_true, e1, c_Law_law_618 k2, g_Law_law_621, if_pos rfl]
theorem lw_loads {d : Nat} {σ σ1 σ2 : Sg} {x4 r : Int32} {a1 a2 : Int32} (h1 : ax_ix (x4 + 1) (sX σ).1 = true) (e1 : (sX σ).2 (Int32.toNatClampNeg (x4 + 1)) = a1) (h2 : ax_ix (x4 + 2) (sX σ).1 = true) (e2 : (sX σ).2 (Int32.toNatClampNeg (x4 + 2)) = a2) (k1 : ev d 231 0 [(0, .ref 0), (1, .int a1), (2, .int a2)] [] (mkH σ) = some (mkH σ1, some (some (.int r)))) (k2 : ev d 68 0 [(0, .ref 50), (1, .int a1), (2, .int a2)] [] (mkH σ1) = some (mkH σ2, some (some (.int r)))) (hX : sX σ1 = sX σ) : ev (d + 1) 7 39 [(0, .ref 1000000), (1, .ref 0), (2, .ref 50), (3, .ref 74), (4, .int x4)] [.int 12] (mkH σ) = ev (d + 1) 7 23 [(0, .ref 1000000), (1, .ref 0), (2, .ref 50), (3, .ref 74), (4, .int (x4 + 5))] [] (mkH σ2) := by
  rw [w_Law_law_39_12, g_Law_law_626, h1, cond_true, h2, cond_true, e1, e2, c_Law_law_639 k1, g_Law_law_642, hX, h1, cond_true, h2, cond_true, e1, e2, c_Law_law_655 k2, g_Law_law_658, if_pos rfl]
theorem lw_turnsRound {d : Nat} {σ σ1 σ2 : Sg} {x4 r : Int32} {a1 : Int32} (h1 : ax_ix (x4 + 1) (sX σ).1 = true) (e1 : (sX σ).2 (Int32.toNatClampNeg (x4 + 1)) = a1) (k1 : ev d 232 0 [(0, .ref 0), (1, .int a1)] [] (mkH σ) = some (mkH σ1, some (some (.int r)))) (k2 : ev d 70 0 [(0, .ref 50), (1, .int a1)] [] (mkH σ1) = some (mkH σ2, some (some (.int r)))) (hX : sX σ1 = sX σ) : ev (d + 1) 7 39 [(0, .ref 1000000), (1, .ref 0), (2, .ref 50), (3, .ref 74), (4, .int x4)] [.int 13] (mkH σ) = ev (d + 1) 7 23 [(0, .ref 1000000), (1, .ref 0), (2, .ref 50), (3, .ref 74), (4, .int (x4 + 5))] [] (mkH σ2) := by
  rw [w_Law_law_39_13, g_Law_law_663, h1, cond_true, e1, c_Law_law_670 k1, g_Law_law_673, hX, h1, cond_true, e1, c_Law_law_680 k2, g_Law_law_683, if_pos rfl]
theorem lw_journey {d : Nat} {σ σ1 σ2 : Sg} {x4 r : Int32}  (k1 : ev d 234 0 [(0, .ref 0)] [] (mkH σ) = some (mkH σ1, some (some (.int r)))) (k2 : ev d 71 0 [(0, .ref 50)] [] (mkH σ1) = some (mkH σ2, some (some (.int r)))) (hX : sX σ1 = sX σ) : ev (d + 1) 7 39 [(0, .ref 1000000), (1, .ref 0), (2, .ref 50), (3, .ref 74), (4, .int x4)] [.int 14] (mkH σ) = ev (d + 1) 7 23 [(0, .ref 1000000), (1, .ref 0), (2, .ref 50), (3, .ref 74), (4, .int (x4 + 5))] [] (mkH σ2) := by
  rw [w_Law_law_39_14, g_Law_law_688, c_Law_law_689 k1, g_Law_law_692, c_Law_law_693 k2, g_Law_law_696, if_pos rfl]
theorem lw_undo {d : Nat} {σ σ1 σ2 : Sg} {x4 r : Int32}  (k1 : ev d 236 0 [(0, .ref 0)] [] (mkH σ) = some (mkH σ1, some (some (.int r)))) (k2 : ev d 74 0 [(0, .ref 50)] [] (mkH σ1) = some (mkH σ2, some (some (.int r)))) (hX : sX σ1 = sX σ) : ev (d + 1) 7 39 [(0, .ref 1000000), (1, .ref 0), (2, .ref 50), (3, .ref 74), (4, .int x4)] [.int 15] (mkH σ) = ev (d + 1) 7 23 [(0, .ref 1000000), (1, .ref 0), (2, .ref 50), (3, .ref 74), (4, .int (x4 + 5))] [] (mkH σ2) := by
  rw [w_Law_law_39_15, g_Law_law_701, c_Law_law_702 k1, g_Law_law_705, c_Law_law_706 k2, g_Law_law_709, if_pos rfl]
theorem lw_later {d : Nat} {σ σ1 σ2 : Sg} {x4 r : Int32} {a1 a2 : Int32} (h1 : ax_ix (x4 + 1) (sX σ).1 = true) (e1 : (sX σ).2 (Int32.toNatClampNeg (x4 + 1)) = a1) (h2 : ax_ix (x4 + 2) (sX σ).1 = true) (e2 : (sX σ).2 (Int32.toNatClampNeg (x4 + 2)) = a2) (k1 : ev d 237 0 [(0, .ref 0), (1, .int a1), (2, .int a2)] [] (mkH σ) = some (mkH σ1, some (some (.int r)))) (k2 : ev d 76 0 [(0, .ref 50), (1, .int a1), (2, .int a2)] [] (mkH σ1) = some (mkH σ2, some (some (.int r)))) (hX : sX σ1 = sX σ) : ev (d + 1) 7 39 [(0, .ref 1000000), (1, .ref 0), (2, .ref 50), (3, .ref 74), (4, .int x4)] [.int 16] (mkH σ) = ev (d + 1) 7 23 [(0, .ref 1000000), (1, .ref 0), (2, .ref 50), (3, .ref 74), (4, .int (x4 + 5))] [] (mkH σ2) := by
  rw [w_Law_law_39_16, g_Law_law_714, h1, cond_true, h2, cond_true, e1, e2, c_Law_law_727 k1, g_Law_law_730, hX, h1, cond_true, h2, cond_true, e1, e2, c_Law_law_743 k2, g_Law_law_746, if_pos rfl]
theorem lw_arrives {d : Nat} {σ σ1 σ2 : Sg} {x4 r : Int32} {a1 : Int32} (h1 : ax_ix (x4 + 1) (sX σ).1 = true) (e1 : (sX σ).2 (Int32.toNatClampNeg (x4 + 1)) = a1) (k1 : ev d 239 0 [(0, .ref 0), (1, .int a1)] [] (mkH σ) = some (mkH σ1, some (some (.int r)))) (k2 : ev d 78 0 [(0, .ref 50), (1, .int a1)] [] (mkH σ1) = some (mkH σ2, some (some (.int r)))) (hX : sX σ1 = sX σ) : ev (d + 1) 7 39 [(0, .ref 1000000), (1, .ref 0), (2, .ref 50), (3, .ref 74), (4, .int x4)] [.int 17] (mkH σ) = ev (d + 1) 7 23 [(0, .ref 1000000), (1, .ref 0), (2, .ref 50), (3, .ref 74), (4, .int (x4 + 5))] [] (mkH σ2) := by
  rw [w_Law_law_39_17, g_Law_law_751, h1, cond_true, e1, c_Law_law_758 k1, g_Law_law_761, hX, h1, cond_true, e1, c_Law_law_768 k2, g_Law_law_771, if_pos rfl]
theorem lw_stops {d : Nat} {σ σ1 σ2 : Sg} {x4 r : Int32} {a1 : Int32} (h1 : ax_ix (x4 + 1) (sX σ).1 = true) (e1 : (sX σ).2 (Int32.toNatClampNeg (x4 + 1)) = a1) (k1 : ev d 240 0 [(0, .ref 0), (1, .int a1)] [] (mkH σ) = some (mkH σ1, some (some (.int r)))) (k2 : ev d 79 0 [(0, .ref 50), (1, .int a1)] [] (mkH σ1) = some (mkH σ2, some (some (.int r)))) (hX : sX σ1 = sX σ) : ev (d + 1) 7 39 [(0, .ref 1000000), (1, .ref 0), (2, .ref 50), (3, .ref 74), (4, .int x4)] [.int 18] (mkH σ) = ev (d + 1) 7 23 [(0, .ref 1000000), (1, .ref 0), (2, .ref 50), (3, .ref 74), (4, .int (x4 + 5))] [] (mkH σ2) := by
  rw [w_Law_law_39_18, g_Law_law_776, h1, cond_true, e1, c_Law_law_783 k1, g_Law_law_786, hX, h1, cond_true, e1, c_Law_law_793 k2, g_Law_law_796, if_pos rfl]
theorem lw_nearest {d : Nat} {σ σ1 σ2 : Sg} {x4 r : Int32} {a1 : Int32} (h1 : ax_ix (x4 + 1) (sX σ).1 = true) (e1 : (sX σ).2 (Int32.toNatClampNeg (x4 + 1)) = a1) (k1 : ev d 241 0 [(0, .ref 0), (1, .int a1)] [] (mkH σ) = some (mkH σ1, some (some (.int r)))) (k2 : ev d 80 0 [(0, .ref 50), (1, .int a1)] [] (mkH σ1) = some (mkH σ2, some (some (.int r)))) (hX : sX σ1 = sX σ) : ev (d + 1) 7 39 [(0, .ref 1000000), (1, .ref 0), (2, .ref 50), (3, .ref 74), (4, .int x4)] [.int 19] (mkH σ) = ev (d + 1) 7 23 [(0, .ref 1000000), (1, .ref 0), (2, .ref 50), (3, .ref 74), (4, .int (x4 + 5))] [] (mkH σ2) := by
  rw [w_Law_law_39_19, g_Law_law_801, h1, cond_true, e1, c_Law_law_808 k1, g_Law_law_811, hX, h1, cond_true, e1, c_Law_law_818 k2, g_Law_law_821, if_pos rfl]
theorem lw_breath {d : Nat} {σ σ1 σ2 : Sg} {x4 r : Int32} {a1 : Int32} (h1 : ax_ix (x4 + 1) (sX σ).1 = true) (e1 : (sX σ).2 (Int32.toNatClampNeg (x4 + 1)) = a1) (k1 : ev d 242 0 [(0, .ref 0), (1, .int a1)] [] (mkH σ) = some (mkH σ1, some (some (.int r)))) (k2 : ev d 81 0 [(0, .ref 50), (1, .int a1)] [] (mkH σ1) = some (mkH σ2, some (some (.int r)))) (hX : sX σ1 = sX σ) : ev (d + 1) 7 39 [(0, .ref 1000000), (1, .ref 0), (2, .ref 50), (3, .ref 74), (4, .int x4)] [.int 20] (mkH σ) = ev (d + 1) 7 23 [(0, .ref 1000000), (1, .ref 0), (2, .ref 50), (3, .ref 74), (4, .int (x4 + 5))] [] (mkH σ2) := by
  rw [w_Law_law_39_20, g_Law_law_826, h1, cond_true, e1, c_Law_law_833 k1, g_Law_law_836, hX, h1, cond_true, e1, c_Law_law_843 k2, g_Law_law_846, if_pos rfl]
theorem lw_meets {d : Nat} {σ σ1 σ2 : Sg} {x4 r : Int32} {a1 a2 : Int32} (h1 : ax_ix (x4 + 1) (sX σ).1 = true) (e1 : (sX σ).2 (Int32.toNatClampNeg (x4 + 1)) = a1) (h2 : ax_ix (x4 + 2) (sX σ).1 = true) (e2 : (sX σ).2 (Int32.toNatClampNeg (x4 + 2)) = a2) (k1 : ev d 243 0 [(0, .ref 0), (1, .int a1), (2, .int a2)] [] (mkH σ) = some (mkH σ1, some (some (.int r)))) (k2 : ev d 82 0 [(0, .ref 50), (1, .int a1), (2, .int a2)] [] (mkH σ1) = some (mkH σ2, some (some (.int r)))) (hX : sX σ1 = sX σ) : ev (d + 1) 7 39 [(0, .ref 1000000), (1, .ref 0), (2, .ref 50), (3, .ref 74), (4, .int x4)] [.int 21] (mkH σ) = ev (d + 1) 7 23 [(0, .ref 1000000), (1, .ref 0), (2, .ref 50), (3, .ref 74), (4, .int (x4 + 5))] [] (mkH σ2) := by
  rw [w_Law_law_39_21, g_Law_law_851, h1, cond_true, h2, cond_true, e1, e2, c_Law_law_864 k1, g_Law_law_867, hX, h1, cond_true, h2, cond_true, e1, e2, c_Law_law_880 k2, g_Law_law_883, if_pos rfl]
theorem lw_tires {d : Nat} {σ σ1 σ2 : Sg} {x4 r : Int32} {a1 : Int32} (h1 : ax_ix (x4 + 1) (sX σ).1 = true) (e1 : (sX σ).2 (Int32.toNatClampNeg (x4 + 1)) = a1) (k1 : ev d 244 0 [(0, .ref 0), (1, .int a1)] [] (mkH σ) = some (mkH σ1, some (some (.int r)))) (k2 : ev d 83 0 [(0, .ref 50), (1, .int a1)] [] (mkH σ1) = some (mkH σ2, some (some (.int r)))) (hX : sX σ1 = sX σ) : ev (d + 1) 7 39 [(0, .ref 1000000), (1, .ref 0), (2, .ref 50), (3, .ref 74), (4, .int x4)] [.int 22] (mkH σ) = ev (d + 1) 7 23 [(0, .ref 1000000), (1, .ref 0), (2, .ref 50), (3, .ref 74), (4, .int (x4 + 5))] [] (mkH σ2) := by
  rw [w_Law_law_39_22, g_Law_law_888, h1, cond_true, e1, c_Law_law_895 k1, g_Law_law_898, hX, h1, cond_true, e1, c_Law_law_905 k2, g_Law_law_908, if_pos rfl]
theorem lw_near {d : Nat} {σ σ1 σ2 : Sg} {x4 r : Int32} {a1 a2 : Int32} (h1 : ax_ix (x4 + 1) (sX σ).1 = true) (e1 : (sX σ).2 (Int32.toNatClampNeg (x4 + 1)) = a1) (h2 : ax_ix (x4 + 2) (sX σ).1 = true) (e2 : (sX σ).2 (Int32.toNatClampNeg (x4 + 2)) = a2) (k1 : ev d 245 0 [(0, .ref 0), (1, .int a1), (2, .int a2)] [] (mkH σ) = some (mkH σ1, some (some (.int r)))) (k2 : ev d 84 0 [(0, .ref 50), (1, .int a1), (2, .int a2)] [] (mkH σ1) = some (mkH σ2, some (some (.int r)))) (hX : sX σ1 = sX σ) : ev (d + 1) 7 39 [(0, .ref 1000000), (1, .ref 0), (2, .ref 50), (3, .ref 74), (4, .int x4)] [.int 23] (mkH σ) = ev (d + 1) 7 23 [(0, .ref 1000000), (1, .ref 0), (2, .ref 50), (3, .ref 74), (4, .int (x4 + 5))] [] (mkH σ2) := by
  rw [w_Law_law_39_23, g_Law_law_913, h1, cond_true, h2, cond_true, e1, e2, c_Law_law_926 k1, g_Law_law_929, hX, h1, cond_true, h2, cond_true, e1, e2, c_Law_law_942 k2, g_Law_law_945, if_pos rfl]
theorem lw_helps {d : Nat} {σ σ1 σ2 : Sg} {x4 r : Int32} {a1 : Int32} (h1 : ax_ix (x4 + 1) (sX σ).1 = true) (e1 : (sX σ).2 (Int32.toNatClampNeg (x4 + 1)) = a1) (k1 : ev d 246 0 [(0, .ref 0), (1, .int a1)] [] (mkH σ) = some (mkH σ1, some (some (.int r)))) (k2 : ev d 85 0 [(0, .ref 50), (1, .int a1)] [] (mkH σ1) = some (mkH σ2, some (some (.int r)))) (hX : sX σ1 = sX σ) : ev (d + 1) 7 39 [(0, .ref 1000000), (1, .ref 0), (2, .ref 50), (3, .ref 74), (4, .int x4)] [.int 24] (mkH σ) = ev (d + 1) 7 23 [(0, .ref 1000000), (1, .ref 0), (2, .ref 50), (3, .ref 74), (4, .int (x4 + 5))] [] (mkH σ2) := by
  rw [w_Law_law_39_24, g_Law_law_950, h1, cond_true, e1, c_Law_law_957 k1, g_Law_law_960, hX, h1, cond_true, e1, c_Law_law_967 k2, g_Law_law_970, if_pos rfl]
theorem lw_hastens {d : Nat} {σ σ1 σ2 : Sg} {x4 r : Int32} {a1 : Int32} (h1 : ax_ix (x4 + 1) (sX σ).1 = true) (e1 : (sX σ).2 (Int32.toNatClampNeg (x4 + 1)) = a1) (k1 : ev d 248 0 [(0, .ref 0), (1, .int a1)] [] (mkH σ) = some (mkH σ1, some (some (.int r)))) (k2 : ev d 86 0 [(0, .ref 50), (1, .int a1)] [] (mkH σ1) = some (mkH σ2, some (some (.int r)))) (hX : sX σ1 = sX σ) : ev (d + 1) 7 39 [(0, .ref 1000000), (1, .ref 0), (2, .ref 50), (3, .ref 74), (4, .int x4)] [.int 25] (mkH σ) = ev (d + 1) 7 23 [(0, .ref 1000000), (1, .ref 0), (2, .ref 50), (3, .ref 74), (4, .int (x4 + 5))] [] (mkH σ2) := by
  rw [w_Law_law_39_25, g_Law_law_975, h1, cond_true, e1, c_Law_law_982 k1, g_Law_law_985, hX, h1, cond_true, e1, c_Law_law_992 k2, g_Law_law_995, if_pos rfl]
theorem lw_rouses {d : Nat} {σ σ1 σ2 : Sg} {x4 r : Int32} {a1 : Int32} (h1 : ax_ix (x4 + 1) (sX σ).1 = true) (e1 : (sX σ).2 (Int32.toNatClampNeg (x4 + 1)) = a1) (k1 : ev d 249 0 [(0, .ref 0), (1, .int a1)] [] (mkH σ) = some (mkH σ1, some (some (.int r)))) (k2 : ev d 88 0 [(0, .ref 50), (1, .int a1)] [] (mkH σ1) = some (mkH σ2, some (some (.int r)))) (hX : sX σ1 = sX σ) : ev (d + 1) 7 39 [(0, .ref 1000000), (1, .ref 0), (2, .ref 50), (3, .ref 74), (4, .int x4)] [.int 26] (mkH σ) = ev (d + 1) 7 23 [(0, .ref 1000000), (1, .ref 0), (2, .ref 50), (3, .ref 74), (4, .int (x4 + 5))] [] (mkH σ2) := by
  rw [w_Law_law_39_26, g_Law_law_1000, h1, cond_true, e1, c_Law_law_1007 k1, g_Law_law_1010, hX, h1, cond_true, e1, c_Law_law_1017 k2, g_Law_law_1020, if_pos rfl]
theorem lw_evens {d : Nat} {σ σ1 σ2 : Sg} {x4 r : Int32}  (k1 : ev d 250 0 [(0, .ref 0)] [] (mkH σ) = some (mkH σ1, some (some (.int r)))) (k2 : ev d 90 0 [(0, .ref 50)] [] (mkH σ1) = some (mkH σ2, some (some (.int r)))) (hX : sX σ1 = sX σ) : ev (d + 1) 7 39 [(0, .ref 1000000), (1, .ref 0), (2, .ref 50), (3, .ref 74), (4, .int x4)] [.int 27] (mkH σ) = ev (d + 1) 7 23 [(0, .ref 1000000), (1, .ref 0), (2, .ref 50), (3, .ref 74), (4, .int (x4 + 5))] [] (mkH σ2) := by
  rw [w_Law_law_39_27, g_Law_law_1025, c_Law_law_1026 k1, g_Law_law_1029, c_Law_law_1030 k2, g_Law_law_1033, if_pos rfl]
theorem lw_seats {d : Nat} {σ σ1 σ2 : Sg} {x4 r : Int32} {a1 : Int32} (h1 : ax_ix (x4 + 1) (sX σ).1 = true) (e1 : (sX σ).2 (Int32.toNatClampNeg (x4 + 1)) = a1) (k1 : ev d 251 0 [(0, .ref 0), (1, .int a1)] [] (mkH σ) = some (mkH σ1, some (some (.int r)))) (k2 : ev d 94 0 [(0, .ref 50), (1, .int a1)] [] (mkH σ1) = some (mkH σ2, some (some (.int r)))) (hX : sX σ1 = sX σ) : ev (d + 1) 7 39 [(0, .ref 1000000), (1, .ref 0), (2, .ref 50), (3, .ref 74), (4, .int x4)] [.int 28] (mkH σ) = ev (d + 1) 7 23 [(0, .ref 1000000), (1, .ref 0), (2, .ref 50), (3, .ref 74), (4, .int (x4 + 5))] [] (mkH σ2) := by
  rw [w_Law_law_39_28, g_Law_law_1038, h1, cond_true, e1, c_Law_law_1045 k1, g_Law_law_1048, hX, h1, cond_true, e1, c_Law_law_1055 k2, g_Law_law_1058, if_pos rfl]
theorem lw_pairs {d : Nat} {σ σ1 σ2 : Sg} {x4 r : Int32} {a1 : Int32} (h1 : ax_ix (x4 + 1) (sX σ).1 = true) (e1 : (sX σ).2 (Int32.toNatClampNeg (x4 + 1)) = a1) (k1 : ev d 252 0 [(0, .ref 0), (1, .int a1)] [] (mkH σ) = some (mkH σ1, some (some (.int r)))) (k2 : ev d 95 0 [(0, .ref 50), (1, .int a1)] [] (mkH σ1) = some (mkH σ2, some (some (.int r)))) (hX : sX σ1 = sX σ) : ev (d + 1) 7 39 [(0, .ref 1000000), (1, .ref 0), (2, .ref 50), (3, .ref 74), (4, .int x4)] [.int 29] (mkH σ) = ev (d + 1) 7 23 [(0, .ref 1000000), (1, .ref 0), (2, .ref 50), (3, .ref 74), (4, .int (x4 + 5))] [] (mkH σ2) := by
  rw [w_Law_law_39_29, g_Law_law_1063, h1, cond_true, e1, c_Law_law_1070 k1, g_Law_law_1073, hX, h1, cond_true, e1, c_Law_law_1080 k2, g_Law_law_1083, if_pos rfl]
theorem lw_holds {d : Nat} {σ σ1 σ2 : Sg} {x4 r : Int32} {a1 a2 : Int32} (h1 : ax_ix (x4 + 1) (sX σ).1 = true) (e1 : (sX σ).2 (Int32.toNatClampNeg (x4 + 1)) = a1) (h2 : ax_ix (x4 + 2) (sX σ).1 = true) (e2 : (sX σ).2 (Int32.toNatClampNeg (x4 + 2)) = a2) (k1 : ev d 255 0 [(0, .ref 0), (1, .int a1), (2, .int a2)] [] (mkH σ) = some (mkH σ1, some (some (.int r)))) (k2 : ev d 96 0 [(0, .ref 50), (1, .int a1), (2, .int a2)] [] (mkH σ1) = some (mkH σ2, some (some (.int r)))) (hX : sX σ1 = sX σ) : ev (d + 1) 7 39 [(0, .ref 1000000), (1, .ref 0), (2, .ref 50), (3, .ref 74), (4, .int x4)] [.int 30] (mkH σ) = ev (d + 1) 7 23 [(0, .ref 1000000), (1, .ref 0), (2, .ref 50), (3, .ref 74), (4, .int (x4 + 5))] [] (mkH σ2) := by
  rw [w_Law_law_39_30, g_Law_law_1088, h1, cond_true, h2, cond_true, e1, e2, c_Law_law_1101 k1, g_Law_law_1104, hX, h1, cond_true, h2, cond_true, e1, e2, c_Law_law_1117 k2, g_Law_law_1120, if_pos rfl]
theorem lw_locks {d : Nat} {σ σ1 σ2 : Sg} {x4 r : Int32} {a1 : Int32} (h1 : ax_ix (x4 + 1) (sX σ).1 = true) (e1 : (sX σ).2 (Int32.toNatClampNeg (x4 + 1)) = a1) (k1 : ev d 256 0 [(0, .ref 0), (1, .int a1)] [] (mkH σ) = some (mkH σ1, some (some (.int r)))) (k2 : ev d 97 0 [(0, .ref 50), (1, .int a1)] [] (mkH σ1) = some (mkH σ2, some (some (.int r)))) (hX : sX σ1 = sX σ) : ev (d + 1) 7 39 [(0, .ref 1000000), (1, .ref 0), (2, .ref 50), (3, .ref 74), (4, .int x4)] [.int 31] (mkH σ) = ev (d + 1) 7 23 [(0, .ref 1000000), (1, .ref 0), (2, .ref 50), (3, .ref 74), (4, .int (x4 + 5))] [] (mkH σ2) := by
  rw [w_Law_law_39_31, g_Law_law_1125, h1, cond_true, e1, c_Law_law_1132 k1, g_Law_law_1135, hX, h1, cond_true, e1, c_Law_law_1142 k2, g_Law_law_1145, if_pos rfl]
theorem lw_onion {d : Nat} {σ σ1 σ2 : Sg} {x4 r : Int32} {a1 a2 : Int32} (h1 : ax_ix (x4 + 1) (sX σ).1 = true) (e1 : (sX σ).2 (Int32.toNatClampNeg (x4 + 1)) = a1) (h2 : ax_ix (x4 + 2) (sX σ).1 = true) (e2 : (sX σ).2 (Int32.toNatClampNeg (x4 + 2)) = a2) (k1 : ev d 257 0 [(0, .ref 0), (1, .int a1), (2, .int a2)] [] (mkH σ) = some (mkH σ1, some (some (.int r)))) (k2 : ev d 98 0 [(0, .ref 50), (1, .int a1), (2, .int a2)] [] (mkH σ1) = some (mkH σ2, some (some (.int r)))) (hX : sX σ1 = sX σ) : ev (d + 1) 7 39 [(0, .ref 1000000), (1, .ref 0), (2, .ref 50), (3, .ref 74), (4, .int x4)] [.int 32] (mkH σ) = ev (d + 1) 7 23 [(0, .ref 1000000), (1, .ref 0), (2, .ref 50), (3, .ref 74), (4, .int (x4 + 5))] [] (mkH σ2) := by
  rw [w_Law_law_39_32, g_Law_law_1150, h1, cond_true, h2, cond_true, e1, e2, c_Law_law_1163 k1, g_Law_law_1166, hX, h1, cond_true, h2, cond_true, e1, e2, c_Law_law_1179 k2, g_Law_law_1182, if_pos rfl]
theorem lw_yawns {d : Nat} {σ σ1 σ2 : Sg} {x4 r : Int32} {a1 a2 : Int32} (h1 : ax_ix (x4 + 1) (sX σ).1 = true) (e1 : (sX σ).2 (Int32.toNatClampNeg (x4 + 1)) = a1) (h2 : ax_ix (x4 + 2) (sX σ).1 = true) (e2 : (sX σ).2 (Int32.toNatClampNeg (x4 + 2)) = a2) (k1 : ev d 258 0 [(0, .ref 0), (1, .int a1), (2, .int a2)] [] (mkH σ) = some (mkH σ1, some (some (.int r)))) (k2 : ev d 100 0 [(0, .ref 50), (1, .int a1), (2, .int a2)] [] (mkH σ1) = some (mkH σ2, some (some (.int r)))) (hX : sX σ1 = sX σ) : ev (d + 1) 7 39 [(0, .ref 1000000), (1, .ref 0), (2, .ref 50), (3, .ref 74), (4, .int x4)] [.int 33] (mkH σ) = ev (d + 1) 7 23 [(0, .ref 1000000), (1, .ref 0), (2, .ref 50), (3, .ref 74), (4, .int (x4 + 5))] [] (mkH σ2) := by
  rw [w_Law_law_39_33, g_Law_law_1187, h1, cond_true, h2, cond_true, e1, e2, c_Law_law_1200 k1, g_Law_law_1203, hX, h1, cond_true, h2, cond_true, e1, e2, c_Law_law_1216 k2, g_Law_law_1219, if_pos rfl]
theorem lw_heard {d : Nat} {σ σ1 σ2 : Sg} {x4 r : Int32} {a1 a2 : Int32} (h1 : ax_ix (x4 + 1) (sX σ).1 = true) (e1 : (sX σ).2 (Int32.toNatClampNeg (x4 + 1)) = a1) (h2 : ax_ix (x4 + 2) (sX σ).1 = true) (e2 : (sX σ).2 (Int32.toNatClampNeg (x4 + 2)) = a2) (k1 : ev d 259 0 [(0, .ref 0), (1, .int a1), (2, .int a2)] [] (mkH σ) = some (mkH σ1, some (some (.int r)))) (k2 : ev d 101 0 [(0, .ref 50), (1, .int a1), (2, .int a2)] [] (mkH σ1) = some (mkH σ2, some (some (.int r)))) (hX : sX σ1 = sX σ) : ev (d + 1) 7 39 [(0, .ref 1000000), (1, .ref 0), (2, .ref 50), (3, .ref 74), (4, .int x4)] [.int 34] (mkH σ) = ev (d + 1) 7 23 [(0, .ref 1000000), (1, .ref 0), (2, .ref 50), (3, .ref 74), (4, .int (x4 + 5))] [] (mkH σ2) := by
  rw [w_Law_law_39_34, g_Law_law_1224, h1, cond_true, h2, cond_true, e1, e2, c_Law_law_1237 k1, g_Law_law_1240, hX, h1, cond_true, h2, cond_true, e1, e2, c_Law_law_1253 k2, g_Law_law_1256, if_pos rfl]
theorem lw_forget {d : Nat} {σ σ1 σ2 : Sg} {x4 r : Int32}  (k1 : ev d 260 0 [(0, .ref 0)] [] (mkH σ) = some (mkH σ1, some (some (.int r)))) (k2 : ev d 102 0 [(0, .ref 50)] [] (mkH σ1) = some (mkH σ2, some (some (.int r)))) (hX : sX σ1 = sX σ) : ev (d + 1) 7 39 [(0, .ref 1000000), (1, .ref 0), (2, .ref 50), (3, .ref 74), (4, .int x4)] [.int 35] (mkH σ) = ev (d + 1) 7 23 [(0, .ref 1000000), (1, .ref 0), (2, .ref 50), (3, .ref 74), (4, .int (x4 + 5))] [] (mkH σ2) := by
  rw [w_Law_law_39_35, g_Law_law_1261, c_Law_law_1262 k1, g_Law_law_1265, c_Law_law_1266 k2, g_Law_law_1269, if_pos rfl]
theorem lw_fits {d : Nat} {σ σ1 σ2 : Sg} {x4 r : Int32}  (k1 : ev d 261 0 [(0, .ref 0)] [] (mkH σ) = some (mkH σ1, some (some (.int r)))) (k2 : ev d 105 0 [(0, .ref 50)] [] (mkH σ1) = some (mkH σ2, some (some (.int r)))) (hX : sX σ1 = sX σ) : ev (d + 1) 7 39 [(0, .ref 1000000), (1, .ref 0), (2, .ref 50), (3, .ref 74), (4, .int x4)] [.int 36] (mkH σ) = ev (d + 1) 7 23 [(0, .ref 1000000), (1, .ref 0), (2, .ref 50), (3, .ref 74), (4, .int (x4 + 5))] [] (mkH σ2) := by
  rw [w_Law_law_39_36, g_Law_law_1274, c_Law_law_1275 k1, g_Law_law_1278, c_Law_law_1279 k2, g_Law_law_1282, if_pos rfl]
theorem lw_asks {d : Nat} {σ σ1 σ2 : Sg} {x4 r : Int32}  (k1 : ev d 262 0 [(0, .ref 0)] [] (mkH σ) = some (mkH σ1, some (some (.int r)))) (k2 : ev d 106 0 [(0, .ref 50)] [] (mkH σ1) = some (mkH σ2, some (some (.int r)))) (hX : sX σ1 = sX σ) : ev (d + 1) 7 39 [(0, .ref 1000000), (1, .ref 0), (2, .ref 50), (3, .ref 74), (4, .int x4)] [.int 37] (mkH σ) = ev (d + 1) 7 23 [(0, .ref 1000000), (1, .ref 0), (2, .ref 50), (3, .ref 74), (4, .int (x4 + 5))] [] (mkH σ2) := by
  rw [w_Law_law_39_37, g_Law_law_1287, c_Law_law_1288 k1, g_Law_law_1291, c_Law_law_1292 k2, g_Law_law_1295, if_pos rfl]
theorem lw_blows {d : Nat} {σ σ1 σ2 : Sg} {x4 r : Int32} {a1 : Int32} (h1 : ax_ix (x4 + 1) (sX σ).1 = true) (e1 : (sX σ).2 (Int32.toNatClampNeg (x4 + 1)) = a1) (k1 : ev d 263 0 [(0, .ref 0), (1, .int a1)] [] (mkH σ) = some (mkH σ1, some (some (.int r)))) (k2 : ev d 108 0 [(0, .ref 50), (1, .int a1)] [] (mkH σ1) = some (mkH σ2, some (some (.int r)))) (hX : sX σ1 = sX σ) : ev (d + 1) 7 39 [(0, .ref 1000000), (1, .ref 0), (2, .ref 50), (3, .ref 74), (4, .int x4)] [.int 38] (mkH σ) = ev (d + 1) 7 23 [(0, .ref 1000000), (1, .ref 0), (2, .ref 50), (3, .ref 74), (4, .int (x4 + 5))] [] (mkH σ2) := by
  rw [w_Law_law_39_38, g_Law_law_1300, h1, cond_true, e1, c_Law_law_1307 k1, g_Law_law_1310, hX, h1, cond_true, e1, c_Law_law_1317 k2, g_Law_law_1320, if_pos rfl]
theorem lw_dozes {d : Nat} {σ σ1 σ2 : Sg} {x4 r : Int32} {a1 a2 a3 : Int32} (h1 : ax_ix (x4 + 1) (sX σ).1 = true) (e1 : (sX σ).2 (Int32.toNatClampNeg (x4 + 1)) = a1) (h2 : ax_ix (x4 + 2) (sX σ).1 = true) (e2 : (sX σ).2 (Int32.toNatClampNeg (x4 + 2)) = a2) (h3 : ax_ix (x4 + 3) (sX σ).1 = true) (e3 : (sX σ).2 (Int32.toNatClampNeg (x4 + 3)) = a3) (k1 : ev d 264 0 [(0, .ref 0), (1, .int a1), (2, .int a2), (3, .int a3)] [] (mkH σ) = some (mkH σ1, some (some (.int r)))) (k2 : ev d 111 0 [(0, .ref 50), (1, .int a1), (2, .int a2), (3, .int a3)] [] (mkH σ1) = some (mkH σ2, some (some (.int r)))) (hX : sX σ1 = sX σ) : ev (d + 1) 7 39 [(0, .ref 1000000), (1, .ref 0), (2, .ref 50), (3, .ref 74), (4, .int x4)] [.int 39] (mkH σ) = ev (d + 1) 7 23 [(0, .ref 1000000), (1, .ref 0), (2, .ref 50), (3, .ref 74), (4, .int (x4 + 5))] [] (mkH σ2) := by
  rw [w_Law_law_39_39, g_Law_law_1325, h1, cond_true, h2, cond_true, h3, cond_true, e1, e2, e3, c_Law_law_1344 k1, g_Law_law_1347, hX, h1, cond_true, h2, cond_true, h3, cond_true, e1, e2, e3, c_Law_law_1366 k2, g_Law_law_1369, if_pos rfl]
theorem lw_rests {d : Nat} {σ σ1 σ2 : Sg} {x4 r : Int32} {a1 : Int32} (h1 : ax_ix (x4 + 1) (sX σ).1 = true) (e1 : (sX σ).2 (Int32.toNatClampNeg (x4 + 1)) = a1) (k1 : ev d 265 0 [(0, .ref 0), (1, .int a1)] [] (mkH σ) = some (mkH σ1, some (some (.int r)))) (k2 : ev d 114 0 [(0, .ref 50), (1, .int a1)] [] (mkH σ1) = some (mkH σ2, some (some (.int r)))) (hX : sX σ1 = sX σ) : ev (d + 1) 7 39 [(0, .ref 1000000), (1, .ref 0), (2, .ref 50), (3, .ref 74), (4, .int x4)] [.int 40] (mkH σ) = ev (d + 1) 7 23 [(0, .ref 1000000), (1, .ref 0), (2, .ref 50), (3, .ref 74), (4, .int (x4 + 5))] [] (mkH σ2) := by
  rw [w_Law_law_39_40, g_Law_law_1374, h1, cond_true, e1, c_Law_law_1381 k1, g_Law_law_1384, hX, h1, cond_true, e1, c_Law_law_1391 k2, g_Law_law_1394, if_pos rfl]
theorem lw_law {d : Nat} {σ σ1 σ2 : Sg} {x4 r : Int32}  (k1 : ev d 266 0 [(0, .ref 0)] [] (mkH σ) = some (mkH σ1, some (some (.int r)))) (k2 : ev d 116 0 [(0, .ref 50)] [] (mkH σ1) = some (mkH σ2, some (some (.int r)))) (hX : sX σ1 = sX σ) : ev (d + 1) 7 39 [(0, .ref 1000000), (1, .ref 0), (2, .ref 50), (3, .ref 74), (4, .int x4)] [.int 41] (mkH σ) = ev (d + 1) 7 23 [(0, .ref 1000000), (1, .ref 0), (2, .ref 50), (3, .ref 74), (4, .int (x4 + 5))] [] (mkH σ2) := by
  rw [w_Law_law_39_41, g_Law_law_1399, c_Law_law_1400 k1, g_Law_law_1403, c_Law_law_1404 k2, g_Law_law_1407, if_pos rfl]
theorem lw_years {d : Nat} {σ σ1 σ2 : Sg} {x4 r : Int32} {a1 a2 : Int32} (h1 : ax_ix (x4 + 1) (sX σ).1 = true) (e1 : (sX σ).2 (Int32.toNatClampNeg (x4 + 1)) = a1) (h2 : ax_ix (x4 + 2) (sX σ).1 = true) (e2 : (sX σ).2 (Int32.toNatClampNeg (x4 + 2)) = a2) (k1 : ev d 267 0 [(0, .ref 0), (1, .int a1), (2, .int a2)] [] (mkH σ) = some (mkH σ1, some (some (.int r)))) (k2 : ev d 118 0 [(0, .ref 50), (1, .int a1), (2, .int a2)] [] (mkH σ1) = some (mkH σ2, some (some (.int r)))) (hX : sX σ1 = sX σ) : ev (d + 1) 7 39 [(0, .ref 1000000), (1, .ref 0), (2, .ref 50), (3, .ref 74), (4, .int x4)] [.int 42] (mkH σ) = ev (d + 1) 7 23 [(0, .ref 1000000), (1, .ref 0), (2, .ref 50), (3, .ref 74), (4, .int (x4 + 5))] [] (mkH σ2) := by
  rw [w_Law_law_39_42, g_Law_law_1412, h1, cond_true, h2, cond_true, e1, e2, c_Law_law_1425 k1, g_Law_law_1428, hX, h1, cond_true, h2, cond_true, e1, e2, c_Law_law_1441 k2, g_Law_law_1444, if_pos rfl]
theorem lw_keep {d : Nat} {σ σ1 σ2 : Sg} {x4 r : Int32} {a1 : Int32} (h1 : ax_ix (x4 + 1) (sX σ).1 = true) (e1 : (sX σ).2 (Int32.toNatClampNeg (x4 + 1)) = a1) (k1 : ev d 268 0 [(0, .ref 0), (1, .int a1)] [] (mkH σ) = some (mkH σ1, some (some (.int r)))) (k2 : ev d 119 0 [(0, .ref 50), (1, .int a1)] [] (mkH σ1) = some (mkH σ2, some (some (.int r)))) (hX : sX σ1 = sX σ) : ev (d + 1) 7 39 [(0, .ref 1000000), (1, .ref 0), (2, .ref 50), (3, .ref 74), (4, .int x4)] [.int 43] (mkH σ) = ev (d + 1) 7 23 [(0, .ref 1000000), (1, .ref 0), (2, .ref 50), (3, .ref 74), (4, .int (x4 + 5))] [] (mkH σ2) := by
  rw [w_Law_law_39_43, g_Law_law_1449, h1, cond_true, e1, c_Law_law_1456 k1, g_Law_law_1459, hX, h1, cond_true, e1, c_Law_law_1466 k2, g_Law_law_1469, if_pos rfl]
theorem lw_again {d : Nat} {σ σ1 σ2 : Sg} {x4 r : Int32} {a1 : Int32} (h1 : ax_ix (x4 + 1) (sX σ).1 = true) (e1 : (sX σ).2 (Int32.toNatClampNeg (x4 + 1)) = a1) (k1 : ev d 269 0 [(0, .ref 0), (1, .int a1)] [] (mkH σ) = some (mkH σ1, some (some (.int r)))) (k2 : ev d 120 0 [(0, .ref 50), (1, .int a1)] [] (mkH σ1) = some (mkH σ2, some (some (.int r)))) (hX : sX σ1 = sX σ) : ev (d + 1) 7 39 [(0, .ref 1000000), (1, .ref 0), (2, .ref 50), (3, .ref 74), (4, .int x4)] [.int 44] (mkH σ) = ev (d + 1) 7 23 [(0, .ref 1000000), (1, .ref 0), (2, .ref 50), (3, .ref 74), (4, .int (x4 + 5))] [] (mkH σ2) := by
  rw [w_Law_law_39_44, g_Law_law_1474, h1, cond_true, e1, c_Law_law_1481 k1, g_Law_law_1484, hX, h1, cond_true, e1, c_Law_law_1491 k2, g_Law_law_1494, if_pos rfl]
theorem lw_count {d : Nat} {σ σ1 σ2 : Sg} {x4 r : Int32} {a1 : Int32} (h1 : ax_ix (x4 + 1) (sX σ).1 = true) (e1 : (sX σ).2 (Int32.toNatClampNeg (x4 + 1)) = a1) (k1 : ev d 270 0 [(0, .ref 0), (1, .int a1)] [] (mkH σ) = some (mkH σ1, some (some (.int r)))) (k2 : ev d 122 0 [(0, .ref 50), (1, .int a1)] [] (mkH σ1) = some (mkH σ2, some (some (.int r)))) (hX : sX σ1 = sX σ) : ev (d + 1) 7 39 [(0, .ref 1000000), (1, .ref 0), (2, .ref 50), (3, .ref 74), (4, .int x4)] [.int 45] (mkH σ) = ev (d + 1) 7 23 [(0, .ref 1000000), (1, .ref 0), (2, .ref 50), (3, .ref 74), (4, .int (x4 + 5))] [] (mkH σ2) := by
  rw [w_Law_law_39_45, g_Law_law_1499, h1, cond_true, e1, c_Law_law_1506 k1, g_Law_law_1509, hX, h1, cond_true, e1, c_Law_law_1516 k2, g_Law_law_1519, if_pos rfl]
theorem lw_row_r {d : Nat} {σ σ1 σ2 : Sg} {x4 : Int32} {r : Int64} {a1 : Int32} (h1 : ax_ix (x4 + 1) (sX σ).1 = true) (e1 : (sX σ).2 (Int32.toNatClampNeg (x4 + 1)) = a1) (k1 : ev (d + 1) 271 0 [(0, .ref 0), (1, .int a1)] [] (mkH σ) = some (mkH σ1, some (some (.long r)))) (k2 : ev (d + 1) 123 0 [(0, .ref 50), (1, .int a1)] [] (mkH (uL σ1 74 0 (r))) = some (mkH σ2, some (some (.long r)))) (hX : sX (uL σ1 74 0 (r)) = sX σ) (k3 : sI σ2 3210 = 0) (k4 : sL σ2 74 0 = r) : ev (d + 1 + 1) 7 39 [(0, .ref 1000000), (1, .ref 0), (2, .ref 50), (3, .ref 74), (4, .int x4)] [.int 46] (mkH σ) = ev (d + 1 + 1) 7 23 [(0, .ref 1000000), (1, .ref 0), (2, .ref 50), (3, .ref 74), (4, .int (x4 + 5))] [] (mkH σ2) := by
  rw [w_Law_law_39_46, g_Law_law_1524, h1, cond_true, e1, c_Law_law_1532_r k1, g_Law_law_1535, hX, h1, cond_true, e1, c_Law_law_1544 k2, g_Law_law_1547, c_Law_law_1550 (th_eq k3), g_Law_law_1553, if_pos rfl, if_pos rfl, show ax_ix 0 1 = true from rfl, cond_true, show Int32.toNatClampNeg 0 = 0 from rfl, k4, lg_cmp_self, if_pos rfl]
theorem lw_row_t {d : Nat} {σ σ1 σ2 : Sg} {x4 : Int32} {r : Int64} {a1 : Int32} (h1 : ax_ix (x4 + 1) (sX σ).1 = true) (e1 : (sX σ).2 (Int32.toNatClampNeg (x4 + 1)) = a1) (k1 : ev (d + 1) 271 0 [(0, .ref 0), (1, .int a1)] [] (mkH σ) = some (mkH σ1, none)) (k2 : ev (d + 1) 123 0 [(0, .ref 50), (1, .int a1)] [] (mkH σ1) = some (mkH σ2, some (some (.long r)))) (hX : sX σ1 = sX σ) (k3 : sI σ2 3210 = 1) : ev (d + 1 + 1) 7 39 [(0, .ref 1000000), (1, .ref 0), (2, .ref 50), (3, .ref 74), (4, .int x4)] [.int 46] (mkH σ) = ev (d + 1 + 1) 7 23 [(0, .ref 1000000), (1, .ref 0), (2, .ref 50), (3, .ref 74), (4, .int (x4 + 5))] [] (mkH σ2) := by
  rw [w_Law_law_39_46, g_Law_law_1524, h1, cond_true, e1, c_Law_law_1532_t k1, g_Law_law_1535, hX, h1, cond_true, e1, c_Law_law_1544 k2, g_Law_law_1547, c_Law_law_1550 (th_eq k3), g_Law_law_1553, if_pos rfl, if_neg (by decide)]
theorem law_op {d D : Nat} {INV : Nat → Sg → Prop} (hD : D ≤ d + 1) (hmo : ∀ k σ, INV k σ → INV (k + 1) σ)
    (p_sign : Op_sign D INV)
    (p_end : Op_end D INV)
    (p_canal : Op_canal D INV)
    (p_barges : Op_barges D INV)
    (p_passengers : Op_passengers D INV)
    (p_rule : Op_rule D INV)
    (p_barge : Op_barge D INV)
    (p_passenger : Op_passenger D INV)
    (p_sheet : Op_sheet D INV)
    (p_hours : Op_hours D INV)
    (p_changes : Op_changes D INV)
    (p_wakes : Op_wakes D INV)
    (p_loads : Op_loads D INV)
    (p_turnsRound : Op_turnsRound D INV)
    (p_journey : Op_journey D INV)
    (p_undo : Op_undo D INV)
    (p_later : Op_later D INV)
    (p_arrives : Op_arrives D INV)
    (p_stops : Op_stops D INV)
    (p_nearest : Op_nearest D INV)
    (p_breath : Op_breath D INV)
    (p_meets : Op_meets D INV)
    (p_tires : Op_tires D INV)
    (p_near : Op_near D INV)
    (p_helps : Op_helps D INV)
    (p_hastens : Op_hastens D INV)
    (p_rouses : Op_rouses D INV)
    (p_evens : Op_evens D INV)
    (p_seats : Op_seats D INV)
    (p_pairs : Op_pairs D INV)
    (p_holds : Op_holds D INV)
    (p_locks : Op_locks D INV)
    (p_onion : Op_onion D INV)
    (p_yawns : Op_yawns D INV)
    (p_heard : Op_heard D INV)
    (p_forget : Op_forget D INV)
    (p_fits : Op_fits D INV)
    (p_asks : Op_asks D INV)
    (p_blows : Op_blows D INV)
    (p_dozes : Op_dozes D INV)
    (p_rests : Op_rests D INV)
    (p_law : Op_law D INV)
    (p_years : Op_years D INV)
    (p_keep : Op_keep D INV)
    (p_again : Op_again D INV)
    (p_count : Op_count D INV)
    (p_row : Op_row D INV)
    {σ : Sg} {x4 : Int32} {n k : Nat} (hn : n < 64) (hk : k < 2560) (hI : INV k σ) (h1 : ax_ix (x4 + 1) (sX σ).1 = true) (h2 : ax_ix (x4 + 2) (sX σ).1 = true) (h3 : ax_ix (x4 + 3) (sX σ).1 = true) (h4 : ax_ix (x4 + 4) (sX σ).1 = true) :
    ∃ τ : Sg, ev (d + 1 + 1) 7 39 [(0, .ref 1000000), (1, .ref 0), (2, .ref 50), (3, .ref 74), (4, .int x4)] [.int (nI n)] (mkH σ) = ev (d + 1 + 1) 7 23 [(0, .ref 1000000), (1, .ref 0), (2, .ref 50), (3, .ref 74), (4, .int (x4 + 5))] [] (mkH τ) ∧ sX τ = sX σ ∧ sT τ ≤ sT σ + 1 ∧ INV (k + 1) τ := by
  match n, hn with
  | 0, _ =>
    obtain ⟨σ1, σ2, r, k1, k2, x1, x2, t1, i1⟩ := p_sign (d + 1) hD k σ _ hk hI
    exact ⟨σ2, lw_sign h1 rfl k1 k2 x1, x2, by omega, i1⟩
  | 1, _ =>
    obtain ⟨σ1, σ2, r, k1, k2, x1, x2, t1, i1⟩ := p_end (d + 1) hD k σ _ hk hI
    exact ⟨σ2, lw_end h1 rfl k1 k2 x1, x2, by omega, i1⟩
  | 2, _ =>
    obtain ⟨σ1, σ2, r, k1, k2, x1, x2, t1, i1⟩ := p_canal (d + 1) hD k σ hk hI
    exact ⟨σ2, lw_canal k1 k2 x1, x2, by omega, i1⟩
  | 3, _ =>
    obtain ⟨σ1, σ2, r, k1, k2, x1, x2, t1, i1⟩ := p_barges (d + 1) hD k σ hk hI
    exact ⟨σ2, lw_barges k1 k2 x1, x2, by omega, i1⟩
  | 4, _ =>
    obtain ⟨σ1, σ2, r, k1, k2, x1, x2, t1, i1⟩ := p_passengers (d + 1) hD k σ hk hI
    exact ⟨σ2, lw_passengers k1 k2 x1, x2, by omega, i1⟩
  | 5, _ =>
    obtain ⟨σ1, σ2, r, k1, k2, x1, x2, t1, i1⟩ := p_rule (d + 1) hD k σ hk hI
    exact ⟨σ2, lw_rule k1 k2 x1, x2, by omega, i1⟩
  | 6, _ =>
    rcases p_barge (d + 1) hD k σ _ _ hk hI with ⟨σ1, σ2, r, k1, k2, x1, x2, t1, y1, y2, i1⟩ | ⟨σ1, σ2, r, k1, k2, x1, x2, t1, y1, i1⟩
    · exact ⟨σ2, lw_barge_r h1 rfl h2 rfl k1 k2 x1 y1 y2, x2, by omega, i1⟩
    · exact ⟨σ2, lw_barge_t h1 rfl h2 rfl k1 k2 x1 y1, x2, by omega, i1⟩
  | 7, _ =>
    rcases p_passenger (d + 1) hD k σ _ _ hk hI with ⟨σ1, σ2, r, k1, k2, x1, x2, t1, y1, y2, i1⟩ | ⟨σ1, σ2, r, k1, k2, x1, x2, t1, y1, i1⟩
    · exact ⟨σ2, lw_passenger_r h1 rfl h2 rfl k1 k2 x1 y1 y2, x2, by omega, i1⟩
    · exact ⟨σ2, lw_passenger_t h1 rfl h2 rfl k1 k2 x1 y1, x2, by omega, i1⟩
  | 8, _ =>
    obtain ⟨σ1, σ2, r, k1, k2, x1, x2, t1, i1⟩ := p_sheet (d + 1) hD k σ _ _ _ _ hk hI
    exact ⟨σ2, lw_sheet h1 rfl h2 rfl h3 rfl h4 rfl k1 k2 x1, x2, by omega, i1⟩
  | 9, _ =>
    obtain ⟨σ1, σ2, r, k1, k2, x1, x2, t1, i1⟩ := p_hours (d + 1) hD k σ _ hk hI
    exact ⟨σ2, lw_hours h1 rfl k1 k2 x1, x2, by omega, i1⟩
  | 10, _ =>
    obtain ⟨σ1, σ2, r, k1, k2, x1, x2, t1, i1⟩ := p_changes (d + 1) hD k σ _ _ hk hI
    exact ⟨σ2, lw_changes h1 rfl h2 rfl k1 k2 x1, x2, by omega, i1⟩
  | 11, _ =>
    obtain ⟨σ1, σ2, r, k1, k2, x1, x2, t1, i1⟩ := p_wakes (d + 1) hD k σ _ hk hI
    exact ⟨σ2, lw_wakes h1 rfl k1 k2 x1, x2, by omega, i1⟩
  | 12, _ =>
    obtain ⟨σ1, σ2, r, k1, k2, x1, x2, t1, i1⟩ := p_loads (d + 1) hD k σ _ _ hk hI
    exact ⟨σ2, lw_loads h1 rfl h2 rfl k1 k2 x1, x2, by omega, i1⟩
  | 13, _ =>
    obtain ⟨σ1, σ2, r, k1, k2, x1, x2, t1, i1⟩ := p_turnsRound (d + 1) hD k σ _ hk hI
    exact ⟨σ2, lw_turnsRound h1 rfl k1 k2 x1, x2, by omega, i1⟩
  | 14, _ =>
    obtain ⟨σ1, σ2, r, k1, k2, x1, x2, t1, i1⟩ := p_journey (d + 1) hD k σ hk hI
    exact ⟨σ2, lw_journey k1 k2 x1, x2, by omega, i1⟩
  | 15, _ =>
    obtain ⟨σ1, σ2, r, k1, k2, x1, x2, t1, i1⟩ := p_undo (d + 1) hD k σ hk hI
    exact ⟨σ2, lw_undo k1 k2 x1, x2, by omega, i1⟩
  | 16, _ =>
    obtain ⟨σ1, σ2, r, k1, k2, x1, x2, t1, i1⟩ := p_later (d + 1) hD k σ _ _ hk hI
    exact ⟨σ2, lw_later h1 rfl h2 rfl k1 k2 x1, x2, by omega, i1⟩
  | 17, _ =>
    obtain ⟨σ1, σ2, r, k1, k2, x1, x2, t1, i1⟩ := p_arrives (d + 1) hD k σ _ hk hI
    exact ⟨σ2, lw_arrives h1 rfl k1 k2 x1, x2, by omega, i1⟩
  | 18, _ =>
    obtain ⟨σ1, σ2, r, k1, k2, x1, x2, t1, i1⟩ := p_stops (d + 1) hD k σ _ hk hI
    exact ⟨σ2, lw_stops h1 rfl k1 k2 x1, x2, by omega, i1⟩
  | 19, _ =>
    obtain ⟨σ1, σ2, r, k1, k2, x1, x2, t1, i1⟩ := p_nearest (d + 1) hD k σ _ hk hI
    exact ⟨σ2, lw_nearest h1 rfl k1 k2 x1, x2, by omega, i1⟩
  | 20, _ =>
    obtain ⟨σ1, σ2, r, k1, k2, x1, x2, t1, i1⟩ := p_breath (d + 1) hD k σ _ hk hI
    exact ⟨σ2, lw_breath h1 rfl k1 k2 x1, x2, by omega, i1⟩
  | 21, _ =>
    obtain ⟨σ1, σ2, r, k1, k2, x1, x2, t1, i1⟩ := p_meets (d + 1) hD k σ _ _ hk hI
    exact ⟨σ2, lw_meets h1 rfl h2 rfl k1 k2 x1, x2, by omega, i1⟩
  | 22, _ =>
    obtain ⟨σ1, σ2, r, k1, k2, x1, x2, t1, i1⟩ := p_tires (d + 1) hD k σ _ hk hI
    exact ⟨σ2, lw_tires h1 rfl k1 k2 x1, x2, by omega, i1⟩
  | 23, _ =>
    obtain ⟨σ1, σ2, r, k1, k2, x1, x2, t1, i1⟩ := p_near (d + 1) hD k σ _ _ hk hI
    exact ⟨σ2, lw_near h1 rfl h2 rfl k1 k2 x1, x2, by omega, i1⟩
  | 24, _ =>
    obtain ⟨σ1, σ2, r, k1, k2, x1, x2, t1, i1⟩ := p_helps (d + 1) hD k σ _ hk hI
    exact ⟨σ2, lw_helps h1 rfl k1 k2 x1, x2, by omega, i1⟩
  | 25, _ =>
    obtain ⟨σ1, σ2, r, k1, k2, x1, x2, t1, i1⟩ := p_hastens (d + 1) hD k σ _ hk hI
    exact ⟨σ2, lw_hastens h1 rfl k1 k2 x1, x2, by omega, i1⟩
  | 26, _ =>
    obtain ⟨σ1, σ2, r, k1, k2, x1, x2, t1, i1⟩ := p_rouses (d + 1) hD k σ _ hk hI
    exact ⟨σ2, lw_rouses h1 rfl k1 k2 x1, x2, by omega, i1⟩
  | 27, _ =>
    obtain ⟨σ1, σ2, r, k1, k2, x1, x2, t1, i1⟩ := p_evens (d + 1) hD k σ hk hI
    exact ⟨σ2, lw_evens k1 k2 x1, x2, by omega, i1⟩
  | 28, _ =>
    obtain ⟨σ1, σ2, r, k1, k2, x1, x2, t1, i1⟩ := p_seats (d + 1) hD k σ _ hk hI
    exact ⟨σ2, lw_seats h1 rfl k1 k2 x1, x2, by omega, i1⟩
  | 29, _ =>
    obtain ⟨σ1, σ2, r, k1, k2, x1, x2, t1, i1⟩ := p_pairs (d + 1) hD k σ _ hk hI
    exact ⟨σ2, lw_pairs h1 rfl k1 k2 x1, x2, by omega, i1⟩
  | 30, _ =>
    obtain ⟨σ1, σ2, r, k1, k2, x1, x2, t1, i1⟩ := p_holds (d + 1) hD k σ _ _ hk hI
    exact ⟨σ2, lw_holds h1 rfl h2 rfl k1 k2 x1, x2, by omega, i1⟩
  | 31, _ =>
    obtain ⟨σ1, σ2, r, k1, k2, x1, x2, t1, i1⟩ := p_locks (d + 1) hD k σ _ hk hI
    exact ⟨σ2, lw_locks h1 rfl k1 k2 x1, x2, by omega, i1⟩
  | 32, _ =>
    obtain ⟨σ1, σ2, r, k1, k2, x1, x2, t1, i1⟩ := p_onion (d + 1) hD k σ _ _ hk hI
    exact ⟨σ2, lw_onion h1 rfl h2 rfl k1 k2 x1, x2, by omega, i1⟩
  | 33, _ =>
    obtain ⟨σ1, σ2, r, k1, k2, x1, x2, t1, i1⟩ := p_yawns (d + 1) hD k σ _ _ hk hI
    exact ⟨σ2, lw_yawns h1 rfl h2 rfl k1 k2 x1, x2, by omega, i1⟩
  | 34, _ =>
    obtain ⟨σ1, σ2, r, k1, k2, x1, x2, t1, i1⟩ := p_heard (d + 1) hD k σ _ _ hk hI
    exact ⟨σ2, lw_heard h1 rfl h2 rfl k1 k2 x1, x2, by omega, i1⟩
  | 35, _ =>
    obtain ⟨σ1, σ2, r, k1, k2, x1, x2, t1, i1⟩ := p_forget (d + 1) hD k σ hk hI
    exact ⟨σ2, lw_forget k1 k2 x1, x2, by omega, i1⟩
  | 36, _ =>
    obtain ⟨σ1, σ2, r, k1, k2, x1, x2, t1, i1⟩ := p_fits (d + 1) hD k σ hk hI
    exact ⟨σ2, lw_fits k1 k2 x1, x2, by omega, i1⟩
  | 37, _ =>
    obtain ⟨σ1, σ2, r, k1, k2, x1, x2, t1, i1⟩ := p_asks (d + 1) hD k σ hk hI
    exact ⟨σ2, lw_asks k1 k2 x1, x2, by omega, i1⟩
  | 38, _ =>
    obtain ⟨σ1, σ2, r, k1, k2, x1, x2, t1, i1⟩ := p_blows (d + 1) hD k σ _ hk hI
    exact ⟨σ2, lw_blows h1 rfl k1 k2 x1, x2, by omega, i1⟩
  | 39, _ =>
    obtain ⟨σ1, σ2, r, k1, k2, x1, x2, t1, i1⟩ := p_dozes (d + 1) hD k σ _ _ _ hk hI
    exact ⟨σ2, lw_dozes h1 rfl h2 rfl h3 rfl k1 k2 x1, x2, by omega, i1⟩
  | 40, _ =>
    obtain ⟨σ1, σ2, r, k1, k2, x1, x2, t1, i1⟩ := p_rests (d + 1) hD k σ _ hk hI
    exact ⟨σ2, lw_rests h1 rfl k1 k2 x1, x2, by omega, i1⟩
  | 41, _ =>
    obtain ⟨σ1, σ2, r, k1, k2, x1, x2, t1, i1⟩ := p_law (d + 1) hD k σ hk hI
    exact ⟨σ2, lw_law k1 k2 x1, x2, by omega, i1⟩
  | 42, _ =>
    obtain ⟨σ1, σ2, r, k1, k2, x1, x2, t1, i1⟩ := p_years (d + 1) hD k σ _ _ hk hI
    exact ⟨σ2, lw_years h1 rfl h2 rfl k1 k2 x1, x2, by omega, i1⟩
  | 43, _ =>
    obtain ⟨σ1, σ2, r, k1, k2, x1, x2, t1, i1⟩ := p_keep (d + 1) hD k σ _ hk hI
    exact ⟨σ2, lw_keep h1 rfl k1 k2 x1, x2, by omega, i1⟩
  | 44, _ =>
    obtain ⟨σ1, σ2, r, k1, k2, x1, x2, t1, i1⟩ := p_again (d + 1) hD k σ _ hk hI
    exact ⟨σ2, lw_again h1 rfl k1 k2 x1, x2, by omega, i1⟩
  | 45, _ =>
    obtain ⟨σ1, σ2, r, k1, k2, x1, x2, t1, i1⟩ := p_count (d + 1) hD k σ _ hk hI
    exact ⟨σ2, lw_count h1 rfl k1 k2 x1, x2, by omega, i1⟩
  | 46, _ =>
    rcases p_row (d + 1) hD k σ _ hk hI with ⟨σ1, σ2, r, k1, k2, x1, x2, t1, y1, y2, i1⟩ | ⟨σ1, σ2, r, k1, k2, x1, x2, t1, y1, i1⟩
    · exact ⟨σ2, lw_row_r h1 rfl k1 k2 x1 y1 y2, x2, by omega, i1⟩
    · exact ⟨σ2, lw_row_t h1 rfl k1 k2 x1 y1, x2, by omega, i1⟩
  | n + 47, hn =>
    refine ⟨σ, ?_, rfl, Nat.le_succ _, hmo _ _ hI⟩
    rw [w_Law_law_39_d (Or.inr (by rw [nI_toInt (by omega)]; omega)), g_Law_law_1579]
theorem law_loop {d D : Nat} {INV : Nat → Sg → Prop} (hD : D ≤ d + 1) (hmo : ∀ k σ, INV k σ → INV (k + 1) σ)
    (p_sign : Op_sign D INV)
    (p_end : Op_end D INV)
    (p_canal : Op_canal D INV)
    (p_barges : Op_barges D INV)
    (p_passengers : Op_passengers D INV)
    (p_rule : Op_rule D INV)
    (p_barge : Op_barge D INV)
    (p_passenger : Op_passenger D INV)
    (p_sheet : Op_sheet D INV)
    (p_hours : Op_hours D INV)
    (p_changes : Op_changes D INV)
    (p_wakes : Op_wakes D INV)
    (p_loads : Op_loads D INV)
    (p_turnsRound : Op_turnsRound D INV)
    (p_journey : Op_journey D INV)
    (p_undo : Op_undo D INV)
    (p_later : Op_later D INV)
    (p_arrives : Op_arrives D INV)
    (p_stops : Op_stops D INV)
    (p_nearest : Op_nearest D INV)
    (p_breath : Op_breath D INV)
    (p_meets : Op_meets D INV)
    (p_tires : Op_tires D INV)
    (p_near : Op_near D INV)
    (p_helps : Op_helps D INV)
    (p_hastens : Op_hastens D INV)
    (p_rouses : Op_rouses D INV)
    (p_evens : Op_evens D INV)
    (p_seats : Op_seats D INV)
    (p_pairs : Op_pairs D INV)
    (p_holds : Op_holds D INV)
    (p_locks : Op_locks D INV)
    (p_onion : Op_onion D INV)
    (p_yawns : Op_yawns D INV)
    (p_heard : Op_heard D INV)
    (p_forget : Op_forget D INV)
    (p_fits : Op_fits D INV)
    (p_asks : Op_asks D INV)
    (p_blows : Op_blows D INV)
    (p_dozes : Op_dozes D INV)
    (p_rests : Op_rests D INV)
    (p_law : Op_law D INV)
    (p_years : Op_years D INV)
    (p_keep : Op_keep D INV)
    (p_again : Op_again D INV)
    (p_count : Op_count D INV)
    (p_row : Op_row D INV)
    {N : Nat} {xs : Nat → Int32} (hN : N ≤ 2560) : ∀ (m k : Nat) (σ : Sg), N ≤ 5 * k + m → k ≤ 2560 → INV k σ → sX σ = (N, xs) → ∃ τ : Sg, ev (d + 1 + 1) 7 23 [(0, .ref 1000000), (1, .ref 0), (2, .ref 50), (3, .ref 74), (4, .int (nI (5 * k)))] [] (mkH σ) = some (mkH τ, some (some (.int 1))) ∧ sT τ ≤ sT σ + m := by
  intro m
  induction m with
  | zero =>
    intro k σ hk hk2 hI hX
    refine ⟨σ, ?_, Nat.le_refl _⟩
    rw [g_Law_law_23, hX, if_pos]
    show Int32.ofNat N - 5 < nI (5 * k)
    rw [Int32.lt_iff_toInt_lt, len5 hN, nI_toInt (by omega)]
    omega
  | succ m ih =>
    intro k σ hk hk2 hI hX
    by_cases hc : Int32.ofNat N - 5 < nI (5 * k)
    · refine ⟨σ, ?_, by omega⟩
      rw [g_Law_law_23, hX, if_pos hc]
    · have hc2 : 5 * k + 5 ≤ N := by
        have h1 := hc
        rw [Int32.lt_iff_toInt_lt, len5 hN, nI_toInt (by omega)] at h1
        omega
      have hix : ∀ j, j ≤ 4 → ax_ix (nI (5 * k + j)) (sX σ).1 = true := fun j hj => by
        rw [hX]
        exact ax_ix_of (nI_in (by omega) (by omega))
      have e5 : ∀ j, nI (5 * k) + nI j = nI (5 * k + j) := fun j => nI_add _ _
      obtain ⟨n, hn, en⟩ := and63 ((sX σ).2 (Int32.toNatClampNeg (nI (5 * k))))
      obtain ⟨τ, h1, h2, h3, h4⟩ := law_op hD hmo p_sign p_end p_canal p_barges p_passengers p_rule p_barge p_passenger p_sheet p_hours p_changes p_wakes p_loads p_turnsRound p_journey p_undo p_later p_arrives p_stops p_nearest p_breath p_meets p_tires p_near p_helps p_hastens p_rouses p_evens p_seats p_pairs p_holds p_locks p_onion p_yawns p_heard p_forget p_fits p_asks p_blows p_dozes p_rests p_law p_years p_keep p_again p_count p_row hn (by omega : k < 2560) hI (by rw [show (1 : Int32) = nI 1 from rfl, e5]; exact hix 1 (by omega)) (by rw [show (2 : Int32) = nI 2 from rfl, e5]; exact hix 2 (by omega)) (by rw [show (3 : Int32) = nI 3 from rfl, e5]; exact hix 3 (by omega)) (by rw [show (4 : Int32) = nI 4 from rfl, e5]; exact hix 4 (by omega)) (x4 := nI (5 * k))
      obtain ⟨ρ, g1, g2⟩ := ih (k + 1) τ (by omega) (by omega) h4 (h2.trans hX)
      refine ⟨ρ, ?_, by omega⟩
      have hc9 : ¬ Int32.ofNat (sX σ).1 - 5 < nI (5 * k) := by rw [hX]; exact hc
      rw [g_Law_law_23, if_neg hc9, show nI (5 * k) = nI (5 * k + 0) from rfl, hix 0 (by omega), cond_true, show nI (5 * k + 0) = nI (5 * k) from rfl, en, h1, show (5 : Int32) = nI 5 from rfl, e5, show 5 * k + 5 = 5 * (k + 1) by omega]
      exact g1
/-- the claim out of the calls, one by one -/
theorem law_main {D : Nat} {INV : Nat → Sg → Prop} (hD : D ≤ 990) (h0 : ∀ (N : Nat) (xs : Nat → Int32), N ≤ 2560 → INV 0 (s0 N xs)) (hmo : ∀ k σ, INV k σ → INV (k + 1) σ)
    (p_sign : Op_sign D INV)
    (p_end : Op_end D INV)
    (p_canal : Op_canal D INV)
    (p_barges : Op_barges D INV)
    (p_passengers : Op_passengers D INV)
    (p_rule : Op_rule D INV)
    (p_barge : Op_barge D INV)
    (p_passenger : Op_passenger D INV)
    (p_sheet : Op_sheet D INV)
    (p_hours : Op_hours D INV)
    (p_changes : Op_changes D INV)
    (p_wakes : Op_wakes D INV)
    (p_loads : Op_loads D INV)
    (p_turnsRound : Op_turnsRound D INV)
    (p_journey : Op_journey D INV)
    (p_undo : Op_undo D INV)
    (p_later : Op_later D INV)
    (p_arrives : Op_arrives D INV)
    (p_stops : Op_stops D INV)
    (p_nearest : Op_nearest D INV)
    (p_breath : Op_breath D INV)
    (p_meets : Op_meets D INV)
    (p_tires : Op_tires D INV)
    (p_near : Op_near D INV)
    (p_helps : Op_helps D INV)
    (p_hastens : Op_hastens D INV)
    (p_rouses : Op_rouses D INV)
    (p_evens : Op_evens D INV)
    (p_seats : Op_seats D INV)
    (p_pairs : Op_pairs D INV)
    (p_holds : Op_holds D INV)
    (p_locks : Op_locks D INV)
    (p_onion : Op_onion D INV)
    (p_yawns : Op_yawns D INV)
    (p_heard : Op_heard D INV)
    (p_forget : Op_forget D INV)
    (p_fits : Op_fits D INV)
    (p_asks : Op_asks D INV)
    (p_blows : Op_blows D INV)
    (p_dozes : Op_dozes D INV)
    (p_rests : Op_rests D INV)
    (p_law : Op_law D INV)
    (p_years : Op_years D INV)
    (p_keep : Op_keep D INV)
    (p_again : Op_again D INV)
    (p_count : Op_count D INV)
    (p_row : Op_row D INV) : ax_Main := by
  intro N xs hN
  obtain ⟨τ, h1, h2⟩ := law_loop (d := 998) (D := D) (INV := INV) (by omega) hmo p_sign p_end p_canal p_barges p_passengers p_rule p_barge p_passenger p_sheet p_hours p_changes p_wakes p_loads p_turnsRound p_journey p_undo p_later p_arrives p_stops p_nearest p_breath p_meets p_tires p_near p_helps p_hastens p_rouses p_evens p_seats p_pairs p_holds p_locks p_onion p_yawns p_heard p_forget p_fits p_asks p_blows p_dozes p_rests p_law p_years p_keep p_again p_count p_row (xs := xs) hN N 0 (s0 N xs) (by omega) (by omega) (h0 N xs hN) rfl
  have ht : sT (s0 N xs) = 0 := rfl
  refine ⟨999, mkH τ, by omega, ?_, ?_, ?_⟩
  · rw [ax_make (by omega)]
    exact h1
  · show 75 + sT τ ≤ 601024
    omega
  · show 6288 + 6 * sT τ ≤ 7293034
    omega
