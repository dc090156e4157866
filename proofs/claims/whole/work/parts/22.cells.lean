/-! the rows among the cells -/
theorem rA_2 (σ : Sg) : ax_row (mkH σ) 2 = some (.char, 80, sA σ 2) := rfl
theorem lA_2 : Nat.ble 1000000 2 = false := rfl
theorem cA_2 (σ : Sg) : (mkH σ).1[(2 : Nat)]? = some (.inl (.char, 80, .inl (sA σ 2))) := rfl
theorem pA_2 (σ : Sg) (i : Nat) (x : Int32) : ax_put (mkH σ) 2 (.inl (.char, 80, .inl (upd (sA σ 2) i x))) = mkH (uA σ 2 i x) := rfl
theorem rA_4 (σ : Sg) : ax_row (mkH σ) 4 = some (.char, 30, sA σ 4) := rfl
theorem lA_4 : Nat.ble 1000000 4 = false := rfl
theorem cA_4 (σ : Sg) : (mkH σ).1[(4 : Nat)]? = some (.inl (.char, 30, .inl (sA σ 4))) := rfl
theorem pA_4 (σ : Sg) (i : Nat) (x : Int32) : ax_put (mkH σ) 4 (.inl (.char, 30, .inl (upd (sA σ 4) i x))) = mkH (uA σ 4 i x) := rfl
theorem rA_7 (σ : Sg) : ax_row (mkH σ) 7 = some (.int, 40, sA σ 7) := rfl
theorem lA_7 : Nat.ble 1000000 7 = false := rfl
theorem cA_7 (σ : Sg) : (mkH σ).1[(7 : Nat)]? = some (.inl (.int, 40, .inl (sA σ 7))) := rfl
theorem pA_7 (σ : Sg) (i : Nat) (x : Int32) : ax_put (mkH σ) 7 (.inl (.int, 40, .inl (upd (sA σ 7) i x))) = mkH (uA σ 7 i x) := rfl
theorem rA_8 (σ : Sg) : ax_row (mkH σ) 8 = some (.int, 40, sA σ 8) := rfl
theorem lA_8 : Nat.ble 1000000 8 = false := rfl
theorem cA_8 (σ : Sg) : (mkH σ).1[(8 : Nat)]? = some (.inl (.int, 40, .inl (sA σ 8))) := rfl
theorem pA_8 (σ : Sg) (i : Nat) (x : Int32) : ax_put (mkH σ) 8 (.inl (.int, 40, .inl (upd (sA σ 8) i x))) = mkH (uA σ 8 i x) := rfl
theorem rA_9 (σ : Sg) : ax_row (mkH σ) 9 = some (.int, 6, sA σ 9) := rfl
theorem lA_9 : Nat.ble 1000000 9 = false := rfl
theorem cA_9 (σ : Sg) : (mkH σ).1[(9 : Nat)]? = some (.inl (.int, 6, .inl (sA σ 9))) := rfl
theorem pA_9 (σ : Sg) (i : Nat) (x : Int32) : ax_put (mkH σ) 9 (.inl (.int, 6, .inl (upd (sA σ 9) i x))) = mkH (uA σ 9 i x) := rfl
theorem rA_10 (σ : Sg) : ax_row (mkH σ) 10 = some (.int, 4, sA σ 10) := rfl
theorem lA_10 : Nat.ble 1000000 10 = false := rfl
theorem cA_10 (σ : Sg) : (mkH σ).1[(10 : Nat)]? = some (.inl (.int, 4, .inl (sA σ 10))) := rfl
theorem pA_10 (σ : Sg) (i : Nat) (x : Int32) : ax_put (mkH σ) 10 (.inl (.int, 4, .inl (upd (sA σ 10) i x))) = mkH (uA σ 10 i x) := rfl
theorem rA_11 (σ : Sg) : ax_row (mkH σ) 11 = some (.int, 4, sA σ 11) := rfl
theorem lA_11 : Nat.ble 1000000 11 = false := rfl
theorem cA_11 (σ : Sg) : (mkH σ).1[(11 : Nat)]? = some (.inl (.int, 4, .inl (sA σ 11))) := rfl
theorem pA_11 (σ : Sg) (i : Nat) (x : Int32) : ax_put (mkH σ) 11 (.inl (.int, 4, .inl (upd (sA σ 11) i x))) = mkH (uA σ 11 i x) := rfl
theorem rA_12 (σ : Sg) : ax_row (mkH σ) 12 = some (.int, 4, sA σ 12) := rfl
theorem lA_12 : Nat.ble 1000000 12 = false := rfl
theorem cA_12 (σ : Sg) : (mkH σ).1[(12 : Nat)]? = some (.inl (.int, 4, .inl (sA σ 12))) := rfl
theorem pA_12 (σ : Sg) (i : Nat) (x : Int32) : ax_put (mkH σ) 12 (.inl (.int, 4, .inl (upd (sA σ 12) i x))) = mkH (uA σ 12 i x) := rfl
theorem rA_13 (σ : Sg) : ax_row (mkH σ) 13 = some (.boolean, 4, sA σ 13) := rfl
theorem lA_13 : Nat.ble 1000000 13 = false := rfl
theorem cA_13 (σ : Sg) : (mkH σ).1[(13 : Nat)]? = some (.inl (.boolean, 4, .inl (sA σ 13))) := rfl
theorem pA_13 (σ : Sg) (i : Nat) (x : Int32) : ax_put (mkH σ) 13 (.inl (.boolean, 4, .inl (upd (sA σ 13) i x))) = mkH (uA σ 13 i x) := rfl
theorem rA_14 (σ : Sg) : ax_row (mkH σ) 14 = some (.int, 4, sA σ 14) := rfl
theorem lA_14 : Nat.ble 1000000 14 = false := rfl
theorem cA_14 (σ : Sg) : (mkH σ).1[(14 : Nat)]? = some (.inl (.int, 4, .inl (sA σ 14))) := rfl
theorem pA_14 (σ : Sg) (i : Nat) (x : Int32) : ax_put (mkH σ) 14 (.inl (.int, 4, .inl (upd (sA σ 14) i x))) = mkH (uA σ 14 i x) := rfl
theorem rA_15 (σ : Sg) : ax_row (mkH σ) 15 = some (.int, 4, sA σ 15) := rfl
theorem lA_15 : Nat.ble 1000000 15 = false := rfl
theorem cA_15 (σ : Sg) : (mkH σ).1[(15 : Nat)]? = some (.inl (.int, 4, .inl (sA σ 15))) := rfl
theorem pA_15 (σ : Sg) (i : Nat) (x : Int32) : ax_put (mkH σ) 15 (.inl (.int, 4, .inl (upd (sA σ 15) i x))) = mkH (uA σ 15 i x) := rfl
theorem rA_16 (σ : Sg) : ax_row (mkH σ) 16 = some (.int, 4, sA σ 16) := rfl
theorem lA_16 : Nat.ble 1000000 16 = false := rfl
theorem cA_16 (σ : Sg) : (mkH σ).1[(16 : Nat)]? = some (.inl (.int, 4, .inl (sA σ 16))) := rfl
theorem pA_16 (σ : Sg) (i : Nat) (x : Int32) : ax_put (mkH σ) 16 (.inl (.int, 4, .inl (upd (sA σ 16) i x))) = mkH (uA σ 16 i x) := rfl
theorem rA_17 (σ : Sg) : ax_row (mkH σ) 17 = some (.int, 4, sA σ 17) := rfl
theorem lA_17 : Nat.ble 1000000 17 = false := rfl
theorem cA_17 (σ : Sg) : (mkH σ).1[(17 : Nat)]? = some (.inl (.int, 4, .inl (sA σ 17))) := rfl
theorem pA_17 (σ : Sg) (i : Nat) (x : Int32) : ax_put (mkH σ) 17 (.inl (.int, 4, .inl (upd (sA σ 17) i x))) = mkH (uA σ 17 i x) := rfl
theorem rA_18 (σ : Sg) : ax_row (mkH σ) 18 = some (.int, 9, sA σ 18) := rfl
theorem lA_18 : Nat.ble 1000000 18 = false := rfl
theorem cA_18 (σ : Sg) : (mkH σ).1[(18 : Nat)]? = some (.inl (.int, 9, .inl (sA σ 18))) := rfl
theorem pA_18 (σ : Sg) (i : Nat) (x : Int32) : ax_put (mkH σ) 18 (.inl (.int, 9, .inl (upd (sA σ 18) i x))) = mkH (uA σ 18 i x) := rfl
theorem rA_19 (σ : Sg) : ax_row (mkH σ) 19 = some (.int, 9, sA σ 19) := rfl
theorem lA_19 : Nat.ble 1000000 19 = false := rfl
theorem cA_19 (σ : Sg) : (mkH σ).1[(19 : Nat)]? = some (.inl (.int, 9, .inl (sA σ 19))) := rfl
theorem pA_19 (σ : Sg) (i : Nat) (x : Int32) : ax_put (mkH σ) 19 (.inl (.int, 9, .inl (upd (sA σ 19) i x))) = mkH (uA σ 19 i x) := rfl
theorem rA_20 (σ : Sg) : ax_row (mkH σ) 20 = some (.boolean, 9, sA σ 20) := rfl
theorem lA_20 : Nat.ble 1000000 20 = false := rfl
theorem cA_20 (σ : Sg) : (mkH σ).1[(20 : Nat)]? = some (.inl (.boolean, 9, .inl (sA σ 20))) := rfl
theorem pA_20 (σ : Sg) (i : Nat) (x : Int32) : ax_put (mkH σ) 20 (.inl (.boolean, 9, .inl (upd (sA σ 20) i x))) = mkH (uA σ 20 i x) := rfl
theorem rA_21 (σ : Sg) : ax_row (mkH σ) 21 = some (.int, 9, sA σ 21) := rfl
theorem lA_21 : Nat.ble 1000000 21 = false := rfl
theorem cA_21 (σ : Sg) : (mkH σ).1[(21 : Nat)]? = some (.inl (.int, 9, .inl (sA σ 21))) := rfl
theorem pA_21 (σ : Sg) (i : Nat) (x : Int32) : ax_put (mkH σ) 21 (.inl (.int, 9, .inl (upd (sA σ 21) i x))) = mkH (uA σ 21 i x) := rfl
theorem rA_22 (σ : Sg) : ax_row (mkH σ) 22 = some (.int, 9, sA σ 22) := rfl
theorem lA_22 : Nat.ble 1000000 22 = false := rfl
theorem cA_22 (σ : Sg) : (mkH σ).1[(22 : Nat)]? = some (.inl (.int, 9, .inl (sA σ 22))) := rfl
theorem pA_22 (σ : Sg) (i : Nat) (x : Int32) : ax_put (mkH σ) 22 (.inl (.int, 9, .inl (upd (sA σ 22) i x))) = mkH (uA σ 22 i x) := rfl
theorem rA_24 (σ : Sg) : ax_row (mkH σ) 24 = some (.int, 4, sA σ 24) := rfl
theorem lA_24 : Nat.ble 1000000 24 = false := rfl
theorem cA_24 (σ : Sg) : (mkH σ).1[(24 : Nat)]? = some (.inl (.int, 4, .inl (sA σ 24))) := rfl
theorem pA_24 (σ : Sg) (i : Nat) (x : Int32) : ax_put (mkH σ) 24 (.inl (.int, 4, .inl (upd (sA σ 24) i x))) = mkH (uA σ 24 i x) := rfl
theorem rA_25 (σ : Sg) : ax_row (mkH σ) 25 = some (.int, 4, sA σ 25) := rfl
theorem lA_25 : Nat.ble 1000000 25 = false := rfl
theorem cA_25 (σ : Sg) : (mkH σ).1[(25 : Nat)]? = some (.inl (.int, 4, .inl (sA σ 25))) := rfl
theorem pA_25 (σ : Sg) (i : Nat) (x : Int32) : ax_put (mkH σ) 25 (.inl (.int, 4, .inl (upd (sA σ 25) i x))) = mkH (uA σ 25 i x) := rfl
theorem rA_26 (σ : Sg) : ax_row (mkH σ) 26 = some (.int, 4, sA σ 26) := rfl
theorem lA_26 : Nat.ble 1000000 26 = false := rfl
theorem cA_26 (σ : Sg) : (mkH σ).1[(26 : Nat)]? = some (.inl (.int, 4, .inl (sA σ 26))) := rfl
theorem pA_26 (σ : Sg) (i : Nat) (x : Int32) : ax_put (mkH σ) 26 (.inl (.int, 4, .inl (upd (sA σ 26) i x))) = mkH (uA σ 26 i x) := rfl
theorem rA_27 (σ : Sg) : ax_row (mkH σ) 27 = some (.boolean, 4, sA σ 27) := rfl
theorem lA_27 : Nat.ble 1000000 27 = false := rfl
theorem cA_27 (σ : Sg) : (mkH σ).1[(27 : Nat)]? = some (.inl (.boolean, 4, .inl (sA σ 27))) := rfl
theorem pA_27 (σ : Sg) (i : Nat) (x : Int32) : ax_put (mkH σ) 27 (.inl (.boolean, 4, .inl (upd (sA σ 27) i x))) = mkH (uA σ 27 i x) := rfl
theorem rA_28 (σ : Sg) : ax_row (mkH σ) 28 = some (.int, 4, sA σ 28) := rfl
theorem lA_28 : Nat.ble 1000000 28 = false := rfl
theorem cA_28 (σ : Sg) : (mkH σ).1[(28 : Nat)]? = some (.inl (.int, 4, .inl (sA σ 28))) := rfl
theorem pA_28 (σ : Sg) (i : Nat) (x : Int32) : ax_put (mkH σ) 28 (.inl (.int, 4, .inl (upd (sA σ 28) i x))) = mkH (uA σ 28 i x) := rfl
theorem rA_29 (σ : Sg) : ax_row (mkH σ) 29 = some (.int, 4, sA σ 29) := rfl
theorem lA_29 : Nat.ble 1000000 29 = false := rfl
theorem cA_29 (σ : Sg) : (mkH σ).1[(29 : Nat)]? = some (.inl (.int, 4, .inl (sA σ 29))) := rfl
theorem pA_29 (σ : Sg) (i : Nat) (x : Int32) : ax_put (mkH σ) 29 (.inl (.int, 4, .inl (upd (sA σ 29) i x))) = mkH (uA σ 29 i x) := rfl
theorem rA_30 (σ : Sg) : ax_row (mkH σ) 30 = some (.int, 4, sA σ 30) := rfl
theorem lA_30 : Nat.ble 1000000 30 = false := rfl
theorem cA_30 (σ : Sg) : (mkH σ).1[(30 : Nat)]? = some (.inl (.int, 4, .inl (sA σ 30))) := rfl
theorem pA_30 (σ : Sg) (i : Nat) (x : Int32) : ax_put (mkH σ) 30 (.inl (.int, 4, .inl (upd (sA σ 30) i x))) = mkH (uA σ 30 i x) := rfl
theorem rA_31 (σ : Sg) : ax_row (mkH σ) 31 = some (.int, 4, sA σ 31) := rfl
theorem lA_31 : Nat.ble 1000000 31 = false := rfl
theorem cA_31 (σ : Sg) : (mkH σ).1[(31 : Nat)]? = some (.inl (.int, 4, .inl (sA σ 31))) := rfl
theorem pA_31 (σ : Sg) (i : Nat) (x : Int32) : ax_put (mkH σ) 31 (.inl (.int, 4, .inl (upd (sA σ 31) i x))) = mkH (uA σ 31 i x) := rfl
theorem rA_32 (σ : Sg) : ax_row (mkH σ) 32 = some (.int, 9, sA σ 32) := rfl
theorem lA_32 : Nat.ble 1000000 32 = false := rfl
theorem cA_32 (σ : Sg) : (mkH σ).1[(32 : Nat)]? = some (.inl (.int, 9, .inl (sA σ 32))) := rfl
theorem pA_32 (σ : Sg) (i : Nat) (x : Int32) : ax_put (mkH σ) 32 (.inl (.int, 9, .inl (upd (sA σ 32) i x))) = mkH (uA σ 32 i x) := rfl
theorem rA_33 (σ : Sg) : ax_row (mkH σ) 33 = some (.int, 9, sA σ 33) := rfl
theorem lA_33 : Nat.ble 1000000 33 = false := rfl
theorem cA_33 (σ : Sg) : (mkH σ).1[(33 : Nat)]? = some (.inl (.int, 9, .inl (sA σ 33))) := rfl
theorem pA_33 (σ : Sg) (i : Nat) (x : Int32) : ax_put (mkH σ) 33 (.inl (.int, 9, .inl (upd (sA σ 33) i x))) = mkH (uA σ 33 i x) := rfl
theorem rA_34 (σ : Sg) : ax_row (mkH σ) 34 = some (.boolean, 9, sA σ 34) := rfl
theorem lA_34 : Nat.ble 1000000 34 = false := rfl
theorem cA_34 (σ : Sg) : (mkH σ).1[(34 : Nat)]? = some (.inl (.boolean, 9, .inl (sA σ 34))) := rfl
theorem pA_34 (σ : Sg) (i : Nat) (x : Int32) : ax_put (mkH σ) 34 (.inl (.boolean, 9, .inl (upd (sA σ 34) i x))) = mkH (uA σ 34 i x) := rfl
theorem rA_35 (σ : Sg) : ax_row (mkH σ) 35 = some (.int, 9, sA σ 35) := rfl
theorem lA_35 : Nat.ble 1000000 35 = false := rfl
theorem cA_35 (σ : Sg) : (mkH σ).1[(35 : Nat)]? = some (.inl (.int, 9, .inl (sA σ 35))) := rfl
theorem pA_35 (σ : Sg) (i : Nat) (x : Int32) : ax_put (mkH σ) 35 (.inl (.int, 9, .inl (upd (sA σ 35) i x))) = mkH (uA σ 35 i x) := rfl
theorem rA_36 (σ : Sg) : ax_row (mkH σ) 36 = some (.int, 9, sA σ 36) := rfl
theorem lA_36 : Nat.ble 1000000 36 = false := rfl
theorem cA_36 (σ : Sg) : (mkH σ).1[(36 : Nat)]? = some (.inl (.int, 9, .inl (sA σ 36))) := rfl
theorem pA_36 (σ : Sg) (i : Nat) (x : Int32) : ax_put (mkH σ) 36 (.inl (.int, 9, .inl (upd (sA σ 36) i x))) = mkH (uA σ 36 i x) := rfl
theorem rA_38 (σ : Sg) : ax_row (mkH σ) 38 = some (.int, 660, sA σ 38) := rfl
theorem lA_38 : Nat.ble 1000000 38 = false := rfl
theorem cA_38 (σ : Sg) : (mkH σ).1[(38 : Nat)]? = some (.inl (.int, 660, .inl (sA σ 38))) := rfl
theorem pA_38 (σ : Sg) (i : Nat) (x : Int32) : ax_put (mkH σ) 38 (.inl (.int, 660, .inl (upd (sA σ 38) i x))) = mkH (uA σ 38 i x) := rfl
theorem rA_39 (σ : Sg) : ax_row (mkH σ) 39 = some (.boolean, 2, sA σ 39) := rfl
theorem lA_39 : Nat.ble 1000000 39 = false := rfl
theorem cA_39 (σ : Sg) : (mkH σ).1[(39 : Nat)]? = some (.inl (.boolean, 2, .inl (sA σ 39))) := rfl
theorem pA_39 (σ : Sg) (i : Nat) (x : Int32) : ax_put (mkH σ) 39 (.inl (.boolean, 2, .inl (upd (sA σ 39) i x))) = mkH (uA σ 39 i x) := rfl
theorem rA_41 (σ : Sg) : ax_row (mkH σ) 41 = some (.int, 12, sA σ 41) := rfl
theorem lA_41 : Nat.ble 1000000 41 = false := rfl
theorem cA_41 (σ : Sg) : (mkH σ).1[(41 : Nat)]? = some (.inl (.int, 12, .inl (sA σ 41))) := rfl
theorem pA_41 (σ : Sg) (i : Nat) (x : Int32) : ax_put (mkH σ) 41 (.inl (.int, 12, .inl (upd (sA σ 41) i x))) = mkH (uA σ 41 i x) := rfl
theorem rA_42 (σ : Sg) : ax_row (mkH σ) 42 = some (.int, 12, sA σ 42) := rfl
theorem lA_42 : Nat.ble 1000000 42 = false := rfl
theorem cA_42 (σ : Sg) : (mkH σ).1[(42 : Nat)]? = some (.inl (.int, 12, .inl (sA σ 42))) := rfl
theorem pA_42 (σ : Sg) (i : Nat) (x : Int32) : ax_put (mkH σ) 42 (.inl (.int, 12, .inl (upd (sA σ 42) i x))) = mkH (uA σ 42 i x) := rfl
theorem rL_45 (σ : Sg) : ax_rowL (mkH σ) 45 = some (9, sL σ 45) := rfl
theorem pL_45 (σ : Sg) (i : Nat) (x : Int64) : ax_put (mkH σ) 45 (.inl (.long, 9, .inr (.inl (vp_updL (sL σ 45) i x)))) = mkH (uL σ 45 i x) := rfl
theorem rA_47 (σ : Sg) : ax_row (mkH σ) 47 = some (.int, 40, sA σ 47) := rfl
theorem lA_47 : Nat.ble 1000000 47 = false := rfl
theorem cA_47 (σ : Sg) : (mkH σ).1[(47 : Nat)]? = some (.inl (.int, 40, .inl (sA σ 47))) := rfl
theorem pA_47 (σ : Sg) (i : Nat) (x : Int32) : ax_put (mkH σ) 47 (.inl (.int, 40, .inl (upd (sA σ 47) i x))) = mkH (uA σ 47 i x) := rfl
theorem rA_48 (σ : Sg) : ax_row (mkH σ) 48 = some (.int, 40, sA σ 48) := rfl
theorem lA_48 : Nat.ble 1000000 48 = false := rfl
theorem cA_48 (σ : Sg) : (mkH σ).1[(48 : Nat)]? = some (.inl (.int, 40, .inl (sA σ 48))) := rfl
theorem pA_48 (σ : Sg) (i : Nat) (x : Int32) : ax_put (mkH σ) 48 (.inl (.int, 40, .inl (upd (sA σ 48) i x))) = mkH (uA σ 48 i x) := rfl
theorem rA_49 (σ : Sg) : ax_row (mkH σ) 49 = some (.int, 6, sA σ 49) := rfl
theorem lA_49 : Nat.ble 1000000 49 = false := rfl
theorem cA_49 (σ : Sg) : (mkH σ).1[(49 : Nat)]? = some (.inl (.int, 6, .inl (sA σ 49))) := rfl
theorem pA_49 (σ : Sg) (i : Nat) (x : Int32) : ax_put (mkH σ) 49 (.inl (.int, 6, .inl (upd (sA σ 49) i x))) = mkH (uA σ 49 i x) := rfl
theorem rA_51 (σ : Sg) : ax_row (mkH σ) 51 = some (.int, 44, sA σ 51) := rfl
theorem lA_51 : Nat.ble 1000000 51 = false := rfl
theorem cA_51 (σ : Sg) : (mkH σ).1[(51 : Nat)]? = some (.inl (.int, 44, .inl (sA σ 51))) := rfl
theorem pA_51 (σ : Sg) (i : Nat) (x : Int32) : ax_put (mkH σ) 51 (.inl (.int, 44, .inl (upd (sA σ 51) i x))) = mkH (uA σ 51 i x) := rfl
theorem rA_52 (σ : Sg) : ax_row (mkH σ) 52 = some (.int, 30, sA σ 52) := rfl
theorem lA_52 : Nat.ble 1000000 52 = false := rfl
theorem cA_52 (σ : Sg) : (mkH σ).1[(52 : Nat)]? = some (.inl (.int, 30, .inl (sA σ 52))) := rfl
theorem pA_52 (σ : Sg) (i : Nat) (x : Int32) : ax_put (mkH σ) 52 (.inl (.int, 30, .inl (upd (sA σ 52) i x))) = mkH (uA σ 52 i x) := rfl
theorem rA_53 (σ : Sg) : ax_row (mkH σ) 53 = some (.int, 9, sA σ 53) := rfl
theorem lA_53 : Nat.ble 1000000 53 = false := rfl
theorem cA_53 (σ : Sg) : (mkH σ).1[(53 : Nat)]? = some (.inl (.int, 9, .inl (sA σ 53))) := rfl
theorem pA_53 (σ : Sg) (i : Nat) (x : Int32) : ax_put (mkH σ) 53 (.inl (.int, 9, .inl (upd (sA σ 53) i x))) = mkH (uA σ 53 i x) := rfl
theorem rA_54 (σ : Sg) : ax_row (mkH σ) 54 = some (.byte, 80, sA σ 54) := rfl
theorem lA_54 : Nat.ble 1000000 54 = false := rfl
theorem cA_54 (σ : Sg) : (mkH σ).1[(54 : Nat)]? = some (.inl (.byte, 80, .inl (sA σ 54))) := rfl
theorem pA_54 (σ : Sg) (i : Nat) (x : Int32) : ax_put (mkH σ) 54 (.inl (.byte, 80, .inl (upd (sA σ 54) i x))) = mkH (uA σ 54 i x) := rfl
theorem rL_55 (σ : Sg) : ax_rowL (mkH σ) 55 = some (16, sL σ 55) := rfl
theorem pL_55 (σ : Sg) (i : Nat) (x : Int64) : ax_put (mkH σ) 55 (.inl (.long, 16, .inr (.inl (vp_updL (sL σ 55) i x)))) = mkH (uL σ 55 i x) := rfl
theorem rA_56 (σ : Sg) : ax_row (mkH σ) 56 = some (.int, 57, sA σ 56) := rfl
theorem lA_56 : Nat.ble 1000000 56 = false := rfl
theorem cA_56 (σ : Sg) : (mkH σ).1[(56 : Nat)]? = some (.inl (.int, 57, .inl (sA σ 56))) := rfl
theorem pA_56 (σ : Sg) (i : Nat) (x : Int32) : ax_put (mkH σ) 56 (.inl (.int, 57, .inl (upd (sA σ 56) i x))) = mkH (uA σ 56 i x) := rfl
theorem rA_57 (σ : Sg) : ax_row (mkH σ) 57 = some (.byte, 40, sA σ 57) := rfl
theorem lA_57 : Nat.ble 1000000 57 = false := rfl
theorem cA_57 (σ : Sg) : (mkH σ).1[(57 : Nat)]? = some (.inl (.byte, 40, .inl (sA σ 57))) := rfl
theorem pA_57 (σ : Sg) (i : Nat) (x : Int32) : ax_put (mkH σ) 57 (.inl (.byte, 40, .inl (upd (sA σ 57) i x))) = mkH (uA σ 57 i x) := rfl
theorem rA_58 (σ : Sg) : ax_row (mkH σ) 58 = some (.byte, 40, sA σ 58) := rfl
theorem lA_58 : Nat.ble 1000000 58 = false := rfl
theorem cA_58 (σ : Sg) : (mkH σ).1[(58 : Nat)]? = some (.inl (.byte, 40, .inl (sA σ 58))) := rfl
theorem pA_58 (σ : Sg) (i : Nat) (x : Int32) : ax_put (mkH σ) 58 (.inl (.byte, 40, .inl (upd (sA σ 58) i x))) = mkH (uA σ 58 i x) := rfl
theorem rA_59 (σ : Sg) : ax_row (mkH σ) 59 = some (.int, 6, sA σ 59) := rfl
theorem lA_59 : Nat.ble 1000000 59 = false := rfl
theorem cA_59 (σ : Sg) : (mkH σ).1[(59 : Nat)]? = some (.inl (.int, 6, .inl (sA σ 59))) := rfl
theorem pA_59 (σ : Sg) (i : Nat) (x : Int32) : ax_put (mkH σ) 59 (.inl (.int, 6, .inl (upd (sA σ 59) i x))) = mkH (uA σ 59 i x) := rfl
theorem rA_60 (σ : Sg) : ax_row (mkH σ) 60 = some (.int, 528, sA σ 60) := rfl
theorem lA_60 : Nat.ble 1000000 60 = false := rfl
theorem cA_60 (σ : Sg) : (mkH σ).1[(60 : Nat)]? = some (.inl (.int, 528, .inl (sA σ 60))) := rfl
theorem pA_60 (σ : Sg) (i : Nat) (x : Int32) : ax_put (mkH σ) 60 (.inl (.int, 528, .inl (upd (sA σ 60) i x))) = mkH (uA σ 60 i x) := rfl
theorem rA_61 (σ : Sg) : ax_row (mkH σ) 61 = some (.int, 44, sA σ 61) := rfl
theorem lA_61 : Nat.ble 1000000 61 = false := rfl
theorem cA_61 (σ : Sg) : (mkH σ).1[(61 : Nat)]? = some (.inl (.int, 44, .inl (sA σ 61))) := rfl
theorem pA_61 (σ : Sg) (i : Nat) (x : Int32) : ax_put (mkH σ) 61 (.inl (.int, 44, .inl (upd (sA σ 61) i x))) = mkH (uA σ 61 i x) := rfl
theorem rA_62 (σ : Sg) : ax_row (mkH σ) 62 = some (.int, 44, sA σ 62) := rfl
theorem lA_62 : Nat.ble 1000000 62 = false := rfl
theorem cA_62 (σ : Sg) : (mkH σ).1[(62 : Nat)]? = some (.inl (.int, 44, .inl (sA σ 62))) := rfl
theorem pA_62 (σ : Sg) (i : Nat) (x : Int32) : ax_put (mkH σ) 62 (.inl (.int, 44, .inl (upd (sA σ 62) i x))) = mkH (uA σ 62 i x) := rfl
theorem rA_63 (σ : Sg) : ax_row (mkH σ) 63 = some (.int, 4, sA σ 63) := rfl
theorem lA_63 : Nat.ble 1000000 63 = false := rfl
theorem cA_63 (σ : Sg) : (mkH σ).1[(63 : Nat)]? = some (.inl (.int, 4, .inl (sA σ 63))) := rfl
theorem pA_63 (σ : Sg) (i : Nat) (x : Int32) : ax_put (mkH σ) 63 (.inl (.int, 4, .inl (upd (sA σ 63) i x))) = mkH (uA σ 63 i x) := rfl
theorem rA_64 (σ : Sg) : ax_row (mkH σ) 64 = some (.int, 4, sA σ 64) := rfl
theorem lA_64 : Nat.ble 1000000 64 = false := rfl
theorem cA_64 (σ : Sg) : (mkH σ).1[(64 : Nat)]? = some (.inl (.int, 4, .inl (sA σ 64))) := rfl
theorem pA_64 (σ : Sg) (i : Nat) (x : Int32) : ax_put (mkH σ) 64 (.inl (.int, 4, .inl (upd (sA σ 64) i x))) = mkH (uA σ 64 i x) := rfl
theorem rA_65 (σ : Sg) : ax_row (mkH σ) 65 = some (.int, 9, sA σ 65) := rfl
theorem lA_65 : Nat.ble 1000000 65 = false := rfl
theorem cA_65 (σ : Sg) : (mkH σ).1[(65 : Nat)]? = some (.inl (.int, 9, .inl (sA σ 65))) := rfl
theorem pA_65 (σ : Sg) (i : Nat) (x : Int32) : ax_put (mkH σ) 65 (.inl (.int, 9, .inl (upd (sA σ 65) i x))) = mkH (uA σ 65 i x) := rfl
theorem rA_66 (σ : Sg) : ax_row (mkH σ) 66 = some (.int, 240, sA σ 66) := rfl
theorem lA_66 : Nat.ble 1000000 66 = false := rfl
theorem cA_66 (σ : Sg) : (mkH σ).1[(66 : Nat)]? = some (.inl (.int, 240, .inl (sA σ 66))) := rfl
theorem pA_66 (σ : Sg) (i : Nat) (x : Int32) : ax_put (mkH σ) 66 (.inl (.int, 240, .inl (upd (sA σ 66) i x))) = mkH (uA σ 66 i x) := rfl
theorem rA_67 (σ : Sg) : ax_row (mkH σ) 67 = some (.int, 4, sA σ 67) := rfl
theorem lA_67 : Nat.ble 1000000 67 = false := rfl
theorem cA_67 (σ : Sg) : (mkH σ).1[(67 : Nat)]? = some (.inl (.int, 4, .inl (sA σ 67))) := rfl
theorem pA_67 (σ : Sg) (i : Nat) (x : Int32) : ax_put (mkH σ) 67 (.inl (.int, 4, .inl (upd (sA σ 67) i x))) = mkH (uA σ 67 i x) := rfl
theorem rA_68 (σ : Sg) : ax_row (mkH σ) 68 = some (.int, 12, sA σ 68) := rfl
theorem lA_68 : Nat.ble 1000000 68 = false := rfl
theorem cA_68 (σ : Sg) : (mkH σ).1[(68 : Nat)]? = some (.inl (.int, 12, .inl (sA σ 68))) := rfl
theorem pA_68 (σ : Sg) (i : Nat) (x : Int32) : ax_put (mkH σ) 68 (.inl (.int, 12, .inl (upd (sA σ 68) i x))) = mkH (uA σ 68 i x) := rfl
theorem rA_69 (σ : Sg) : ax_row (mkH σ) 69 = some (.int, 12, sA σ 69) := rfl
theorem lA_69 : Nat.ble 1000000 69 = false := rfl
theorem cA_69 (σ : Sg) : (mkH σ).1[(69 : Nat)]? = some (.inl (.int, 12, .inl (sA σ 69))) := rfl
theorem pA_69 (σ : Sg) (i : Nat) (x : Int32) : ax_put (mkH σ) 69 (.inl (.int, 12, .inl (upd (sA σ 69) i x))) = mkH (uA σ 69 i x) := rfl
theorem rA_70 (σ : Sg) : ax_row (mkH σ) 70 = some (.boolean, 3721, sA σ 70) := rfl
theorem lA_70 : Nat.ble 1000000 70 = false := rfl
theorem cA_70 (σ : Sg) : (mkH σ).1[(70 : Nat)]? = some (.inl (.boolean, 3721, .inl (sA σ 70))) := rfl
theorem pA_70 (σ : Sg) (i : Nat) (x : Int32) : ax_put (mkH σ) 70 (.inl (.boolean, 3721, .inl (upd (sA σ 70) i x))) = mkH (uA σ 70 i x) := rfl
theorem rA_71 (σ : Sg) : ax_row (mkH σ) 71 = some (.int, 88, sA σ 71) := rfl
theorem lA_71 : Nat.ble 1000000 71 = false := rfl
theorem cA_71 (σ : Sg) : (mkH σ).1[(71 : Nat)]? = some (.inl (.int, 88, .inl (sA σ 71))) := rfl
theorem pA_71 (σ : Sg) (i : Nat) (x : Int32) : ax_put (mkH σ) 71 (.inl (.int, 88, .inl (upd (sA σ 71) i x))) = mkH (uA σ 71 i x) := rfl
theorem rA_72 (σ : Sg) : ax_row (mkH σ) 72 = some (.boolean, 2, sA σ 72) := rfl
theorem lA_72 : Nat.ble 1000000 72 = false := rfl
theorem cA_72 (σ : Sg) : (mkH σ).1[(72 : Nat)]? = some (.inl (.boolean, 2, .inl (sA σ 72))) := rfl
theorem pA_72 (σ : Sg) (i : Nat) (x : Int32) : ax_put (mkH σ) 72 (.inl (.boolean, 2, .inl (upd (sA σ 72) i x))) = mkH (uA σ 72 i x) := rfl
theorem rA_73 (σ : Sg) : ax_row (mkH σ) 73 = some (.int, 2, sA σ 73) := rfl
theorem lA_73 : Nat.ble 1000000 73 = false := rfl
theorem cA_73 (σ : Sg) : (mkH σ).1[(73 : Nat)]? = some (.inl (.int, 2, .inl (sA σ 73))) := rfl
theorem pA_73 (σ : Sg) (i : Nat) (x : Int32) : ax_put (mkH σ) 73 (.inl (.int, 2, .inl (upd (sA σ 73) i x))) = mkH (uA σ 73 i x) := rfl
theorem rL_74 (σ : Sg) : ax_rowL (mkH σ) 74 = some (1, sL σ 74) := rfl
theorem pL_74 (σ : Sg) (i : Nat) (x : Int64) : ax_put (mkH σ) 74 (.inl (.long, 1, .inr (.inl (vp_updL (sL σ 74) i x)))) = mkH (uL σ 74 i x) := rfl
theorem rA_F0 (σ : Sg) (w : Bool) : ax_row (mkH σ) (fa w 0) = some (.int, 4, sA σ (fa w 0)) := by cases w <;> rfl
theorem lA_F0 (w : Bool) : Nat.ble 1000000 (fa w 0) = false := by cases w <;> rfl
theorem cA_F0 (σ : Sg) (w : Bool) : (mkH σ).1[((fa w 0) : Nat)]? = some (.inl (.int, 4, .inl (sA σ (fa w 0)))) := by cases w <;> rfl
theorem pA_F0 (σ : Sg) (w : Bool) (i : Nat) (x : Int32) : ax_put (mkH σ) (fa w 0) (.inl (.int, 4, .inl (upd (sA σ (fa w 0)) i x))) = mkH (uA σ (fa w 0) i x) := by cases w <;> rfl
theorem rA_F1 (σ : Sg) (w : Bool) : ax_row (mkH σ) (fa w 1) = some (.int, 4, sA σ (fa w 1)) := by cases w <;> rfl
theorem lA_F1 (w : Bool) : Nat.ble 1000000 (fa w 1) = false := by cases w <;> rfl
theorem cA_F1 (σ : Sg) (w : Bool) : (mkH σ).1[((fa w 1) : Nat)]? = some (.inl (.int, 4, .inl (sA σ (fa w 1)))) := by cases w <;> rfl
theorem pA_F1 (σ : Sg) (w : Bool) (i : Nat) (x : Int32) : ax_put (mkH σ) (fa w 1) (.inl (.int, 4, .inl (upd (sA σ (fa w 1)) i x))) = mkH (uA σ (fa w 1) i x) := by cases w <;> rfl
theorem rA_F2 (σ : Sg) (w : Bool) : ax_row (mkH σ) (fa w 2) = some (.int, 4, sA σ (fa w 2)) := by cases w <;> rfl
theorem lA_F2 (w : Bool) : Nat.ble 1000000 (fa w 2) = false := by cases w <;> rfl
theorem cA_F2 (σ : Sg) (w : Bool) : (mkH σ).1[((fa w 2) : Nat)]? = some (.inl (.int, 4, .inl (sA σ (fa w 2)))) := by cases w <;> rfl
theorem pA_F2 (σ : Sg) (w : Bool) (i : Nat) (x : Int32) : ax_put (mkH σ) (fa w 2) (.inl (.int, 4, .inl (upd (sA σ (fa w 2)) i x))) = mkH (uA σ (fa w 2) i x) := by cases w <;> rfl
theorem rA_F3 (σ : Sg) (w : Bool) : ax_row (mkH σ) (fa w 3) = some (.boolean, 4, sA σ (fa w 3)) := by cases w <;> rfl
theorem lA_F3 (w : Bool) : Nat.ble 1000000 (fa w 3) = false := by cases w <;> rfl
theorem cA_F3 (σ : Sg) (w : Bool) : (mkH σ).1[((fa w 3) : Nat)]? = some (.inl (.boolean, 4, .inl (sA σ (fa w 3)))) := by cases w <;> rfl
theorem pA_F3 (σ : Sg) (w : Bool) (i : Nat) (x : Int32) : ax_put (mkH σ) (fa w 3) (.inl (.boolean, 4, .inl (upd (sA σ (fa w 3)) i x))) = mkH (uA σ (fa w 3) i x) := by cases w <;> rfl
theorem rA_F4 (σ : Sg) (w : Bool) : ax_row (mkH σ) (fa w 4) = some (.int, 4, sA σ (fa w 4)) := by cases w <;> rfl
theorem lA_F4 (w : Bool) : Nat.ble 1000000 (fa w 4) = false := by cases w <;> rfl
theorem cA_F4 (σ : Sg) (w : Bool) : (mkH σ).1[((fa w 4) : Nat)]? = some (.inl (.int, 4, .inl (sA σ (fa w 4)))) := by cases w <;> rfl
theorem pA_F4 (σ : Sg) (w : Bool) (i : Nat) (x : Int32) : ax_put (mkH σ) (fa w 4) (.inl (.int, 4, .inl (upd (sA σ (fa w 4)) i x))) = mkH (uA σ (fa w 4) i x) := by cases w <;> rfl
theorem rA_F5 (σ : Sg) (w : Bool) : ax_row (mkH σ) (fa w 5) = some (.int, 4, sA σ (fa w 5)) := by cases w <;> rfl
theorem lA_F5 (w : Bool) : Nat.ble 1000000 (fa w 5) = false := by cases w <;> rfl
theorem cA_F5 (σ : Sg) (w : Bool) : (mkH σ).1[((fa w 5) : Nat)]? = some (.inl (.int, 4, .inl (sA σ (fa w 5)))) := by cases w <;> rfl
theorem pA_F5 (σ : Sg) (w : Bool) (i : Nat) (x : Int32) : ax_put (mkH σ) (fa w 5) (.inl (.int, 4, .inl (upd (sA σ (fa w 5)) i x))) = mkH (uA σ (fa w 5) i x) := by cases w <;> rfl
theorem rA_F6 (σ : Sg) (w : Bool) : ax_row (mkH σ) (fa w 6) = some (.int, 4, sA σ (fa w 6)) := by cases w <;> rfl
theorem lA_F6 (w : Bool) : Nat.ble 1000000 (fa w 6) = false := by cases w <;> rfl
theorem cA_F6 (σ : Sg) (w : Bool) : (mkH σ).1[((fa w 6) : Nat)]? = some (.inl (.int, 4, .inl (sA σ (fa w 6)))) := by cases w <;> rfl
theorem pA_F6 (σ : Sg) (w : Bool) (i : Nat) (x : Int32) : ax_put (mkH σ) (fa w 6) (.inl (.int, 4, .inl (upd (sA σ (fa w 6)) i x))) = mkH (uA σ (fa w 6) i x) := by cases w <;> rfl
theorem rA_F7 (σ : Sg) (w : Bool) : ax_row (mkH σ) (fa w 7) = some (.int, 4, sA σ (fa w 7)) := by cases w <;> rfl
theorem lA_F7 (w : Bool) : Nat.ble 1000000 (fa w 7) = false := by cases w <;> rfl
theorem cA_F7 (σ : Sg) (w : Bool) : (mkH σ).1[((fa w 7) : Nat)]? = some (.inl (.int, 4, .inl (sA σ (fa w 7)))) := by cases w <;> rfl
theorem pA_F7 (σ : Sg) (w : Bool) (i : Nat) (x : Int32) : ax_put (mkH σ) (fa w 7) (.inl (.int, 4, .inl (upd (sA σ (fa w 7)) i x))) = mkH (uA σ (fa w 7) i x) := by cases w <;> rfl
theorem rA_F8 (σ : Sg) (w : Bool) : ax_row (mkH σ) (fa w 8) = some (.int, 9, sA σ (fa w 8)) := by cases w <;> rfl
theorem lA_F8 (w : Bool) : Nat.ble 1000000 (fa w 8) = false := by cases w <;> rfl
theorem cA_F8 (σ : Sg) (w : Bool) : (mkH σ).1[((fa w 8) : Nat)]? = some (.inl (.int, 9, .inl (sA σ (fa w 8)))) := by cases w <;> rfl
theorem pA_F8 (σ : Sg) (w : Bool) (i : Nat) (x : Int32) : ax_put (mkH σ) (fa w 8) (.inl (.int, 9, .inl (upd (sA σ (fa w 8)) i x))) = mkH (uA σ (fa w 8) i x) := by cases w <;> rfl
theorem rA_F9 (σ : Sg) (w : Bool) : ax_row (mkH σ) (fa w 9) = some (.int, 9, sA σ (fa w 9)) := by cases w <;> rfl
theorem lA_F9 (w : Bool) : Nat.ble 1000000 (fa w 9) = false := by cases w <;> rfl
theorem cA_F9 (σ : Sg) (w : Bool) : (mkH σ).1[((fa w 9) : Nat)]? = some (.inl (.int, 9, .inl (sA σ (fa w 9)))) := by cases w <;> rfl
theorem pA_F9 (σ : Sg) (w : Bool) (i : Nat) (x : Int32) : ax_put (mkH σ) (fa w 9) (.inl (.int, 9, .inl (upd (sA σ (fa w 9)) i x))) = mkH (uA σ (fa w 9) i x) := by cases w <;> rfl
theorem rA_F10 (σ : Sg) (w : Bool) : ax_row (mkH σ) (fa w 10) = some (.boolean, 9, sA σ (fa w 10)) := by cases w <;> rfl
theorem lA_F10 (w : Bool) : Nat.ble 1000000 (fa w 10) = false := by cases w <;> rfl
theorem cA_F10 (σ : Sg) (w : Bool) : (mkH σ).1[((fa w 10) : Nat)]? = some (.inl (.boolean, 9, .inl (sA σ (fa w 10)))) := by cases w <;> rfl
theorem pA_F10 (σ : Sg) (w : Bool) (i : Nat) (x : Int32) : ax_put (mkH σ) (fa w 10) (.inl (.boolean, 9, .inl (upd (sA σ (fa w 10)) i x))) = mkH (uA σ (fa w 10) i x) := by cases w <;> rfl
theorem rA_F11 (σ : Sg) (w : Bool) : ax_row (mkH σ) (fa w 11) = some (.int, 9, sA σ (fa w 11)) := by cases w <;> rfl
theorem lA_F11 (w : Bool) : Nat.ble 1000000 (fa w 11) = false := by cases w <;> rfl
theorem cA_F11 (σ : Sg) (w : Bool) : (mkH σ).1[((fa w 11) : Nat)]? = some (.inl (.int, 9, .inl (sA σ (fa w 11)))) := by cases w <;> rfl
theorem pA_F11 (σ : Sg) (w : Bool) (i : Nat) (x : Int32) : ax_put (mkH σ) (fa w 11) (.inl (.int, 9, .inl (upd (sA σ (fa w 11)) i x))) = mkH (uA σ (fa w 11) i x) := by cases w <;> rfl
theorem rA_F12 (σ : Sg) (w : Bool) : ax_row (mkH σ) (fa w 12) = some (.int, 9, sA σ (fa w 12)) := by cases w <;> rfl
theorem lA_F12 (w : Bool) : Nat.ble 1000000 (fa w 12) = false := by cases w <;> rfl
theorem cA_F12 (σ : Sg) (w : Bool) : (mkH σ).1[((fa w 12) : Nat)]? = some (.inl (.int, 9, .inl (sA σ (fa w 12)))) := by cases w <;> rfl
theorem pA_F12 (σ : Sg) (w : Bool) (i : Nat) (x : Int32) : ax_put (mkH σ) (fa w 12) (.inl (.int, 9, .inl (upd (sA σ (fa w 12)) i x))) = mkH (uA σ (fa w 12) i x) := by cases w <;> rfl
theorem rA_R0 (σ : Sg) (u : Bool) : ax_row (mkH σ) (ra u 0) = some (.int, 40, sA σ (ra u 0)) := by cases u <;> rfl
theorem lA_R0 (u : Bool) : Nat.ble 1000000 (ra u 0) = false := by cases u <;> rfl
theorem cA_R0 (σ : Sg) (u : Bool) : (mkH σ).1[((ra u 0) : Nat)]? = some (.inl (.int, 40, .inl (sA σ (ra u 0)))) := by cases u <;> rfl
theorem pA_R0 (σ : Sg) (u : Bool) (i : Nat) (x : Int32) : ax_put (mkH σ) (ra u 0) (.inl (.int, 40, .inl (upd (sA σ (ra u 0)) i x))) = mkH (uA σ (ra u 0) i x) := by cases u <;> rfl
theorem rA_R1 (σ : Sg) (u : Bool) : ax_row (mkH σ) (ra u 1) = some (.int, 40, sA σ (ra u 1)) := by cases u <;> rfl
theorem lA_R1 (u : Bool) : Nat.ble 1000000 (ra u 1) = false := by cases u <;> rfl
theorem cA_R1 (σ : Sg) (u : Bool) : (mkH σ).1[((ra u 1) : Nat)]? = some (.inl (.int, 40, .inl (sA σ (ra u 1)))) := by cases u <;> rfl
theorem pA_R1 (σ : Sg) (u : Bool) (i : Nat) (x : Int32) : ax_put (mkH σ) (ra u 1) (.inl (.int, 40, .inl (upd (sA σ (ra u 1)) i x))) = mkH (uA σ (ra u 1) i x) := by cases u <;> rfl
theorem rA_R2 (σ : Sg) (u : Bool) : ax_row (mkH σ) (ra u 2) = some (.int, 6, sA σ (ra u 2)) := by cases u <;> rfl
theorem lA_R2 (u : Bool) : Nat.ble 1000000 (ra u 2) = false := by cases u <;> rfl
theorem cA_R2 (σ : Sg) (u : Bool) : (mkH σ).1[((ra u 2) : Nat)]? = some (.inl (.int, 6, .inl (sA σ (ra u 2)))) := by cases u <;> rfl
theorem pA_R2 (σ : Sg) (u : Bool) (i : Nat) (x : Int32) : ax_put (mkH σ) (ra u 2) (.inl (.int, 6, .inl (upd (sA σ (ra u 2)) i x))) = mkH (uA σ (ra u 2) i x) := by cases u <;> rfl
theorem rA_M (σ : Sg) (v : Bool) : ax_row (mkH σ) (ma v) = some (.int, 44, sA σ (ma v)) := by cases v <;> rfl
theorem lA_M (v : Bool) : Nat.ble 1000000 (ma v) = false := by cases v <;> rfl
theorem cA_M (σ : Sg) (v : Bool) : (mkH σ).1[((ma v) : Nat)]? = some (.inl (.int, 44, .inl (sA σ (ma v)))) := by cases v <;> rfl
theorem pA_M (σ : Sg) (v : Bool) (i : Nat) (x : Int32) : ax_put (mkH σ) (ma v) (.inl (.int, 44, .inl (upd (sA σ (ma v)) i x))) = mkH (uA σ (ma v) i x) := by cases v <;> rfl
theorem rA_T (σ : Sg) (u : Bool) : ax_row (mkH σ) (mr u) = some (.byte, 40, sA σ (mr u)) := by cases u <;> rfl
theorem lA_T (u : Bool) : Nat.ble 1000000 (mr u) = false := by cases u <;> rfl
theorem cA_T (σ : Sg) (u : Bool) : (mkH σ).1[((mr u) : Nat)]? = some (.inl (.byte, 40, .inl (sA σ (mr u)))) := by cases u <;> rfl
theorem pA_T (σ : Sg) (u : Bool) (i : Nat) (x : Int32) : ax_put (mkH σ) (mr u) (.inl (.byte, 40, .inl (upd (sA σ (mr u)) i x))) = mkH (uA σ (mr u) i x) := by cases u <;> rfl
