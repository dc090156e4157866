/-! Leaves of the reference -/
section MLEAF
variable {d : Nat} {σ : Sg} {v : Bool} {x y : Int32} {n : Nat} {W : Wd} {f : Nat → Int32}
theorem N_in {lo hi : Int32} : ev (d + 1) 10 0 [(0, .int x), (1, .int lo), (2, .int hi)] [] (mkH σ) = rI σ (if x < lo then 0 else (if hi < x then 0 else 1)) := by
  rw [g_Model_in_0]
  split
  · rfl
  · split <;> rfl
theorem N_inx (hn : n < 2147483648) : ev (d + 1) 10 0 [(0, .int x), (1, .int 0), (2, .int (nI n - 1))] [] (mkH σ) = rI σ (bif ax_ix x n then 1 else 0) := by
  rw [N_in, ixc2 hn]
theorem bif_z1 (b : Bool) : z1 (bif b then (1 : Int32) else 0) := by
  cases b
  · exact Or.inl rfl
  · exact Or.inr rfl
theorem N_isB (hW : WO W) (hw : MW W σ) : ev (d + 2) 14 0 [(0, .ref 50), (1, .int x)] [] (mkH σ) = rI σ (bif ax_ix x (wb W) then 1 else 0) := by
  have := hW.1
  rw [g_Model_isBarge_0, hw.1, c_Model_isBarge_8 (N_inx (by omega)), g_Model_isBarge_11, if_pos (z1_or (bif_z1 _))]
theorem N_isM (hW : WO W) (hw : MW W σ) : ev (d + 2) 15 0 [(0, .ref 50), (1, .int x)] [] (mkH σ) = rI σ (bif ax_ix x (wp W) then 1 else 0) := by
  have := hW.2.1
  rw [g_Model_isMan_0, hw.2.1, c_Model_isMan_8 (N_inx (by omega)), g_Model_isMan_11, if_pos (z1_or (bif_z1 _))]
theorem N_isC (hW : WO W) (hw : MW W σ) : ev (d + 2) 17 0 [(0, .ref 50), (1, .int x)] [] (mkH σ) = rI σ (bif ax_ix x (wc W) then 1 else 0) := by
  have := hW.2.2.2.1
  rw [g_Model_isCell_0, hw.2.2.1, c_Model_isCell_8 (N_inx (by omega)), g_Model_isCell_11, if_pos (z1_or (bif_z1 _))]
theorem N_two (hW : WO W) (hw : MW W σ) : ev (d + 3) 16 0 [(0, .ref 50), (1, .int x), (2, .int y)] [] (mkH σ) = rI σ (bif ax_ix x (wb W) && (ax_ix y (wb W) && !(x == y)) then 1 else 0) := by
  rw [g_Model_areTwo_0, c_Model_areTwo_2 (N_isB hW hw), g_Model_areTwo_5]
  cases ax_ix x (wb W) with
  | false => rw [cond_false, if_pos rfl]; rfl
  | true =>
    rw [cond_true, if_neg (by decide), c_Model_areTwo_10 (N_isB hW hw), g_Model_areTwo_13]
    cases ax_ix y (wb W) with
    | false => rw [cond_false, if_pos rfl]; rfl
    | true =>
      rw [cond_true, if_neg (by decide)]
      by_cases e : x = y
      · rw [if_pos e, beq_t e]; rfl
      · rw [if_neg e, beq_f e]; rfl
theorem N_lock (hW : WO W) (hw : MW W σ) (hx : ax_ix x (wc W) = true) : ev (d + 1) 32 0 [(0, .ref 50), (1, .int x)] [] (mkH σ) = rI σ (if 0 < wK W (Int32.toNatClampNeg x) then 1 else 0) := by
  rw [g_Model_isLock_0, ix_mono hx hW.2.2.2.1 (by decide), cond_true, hw.2.2.2.1 _ (ix_lt hx)]
  by_cases h : 0 < wK W (Int32.toNatClampNeg x)
  · rw [if_neg (Int32.not_le.mpr h), if_pos h]
  · rw [if_pos (Int32.not_lt.mp h), if_neg h]
theorem N_next : ev (d + 1) 47 0 [(0, .int x), (1, .int y)] [] (mkH σ) = rI σ (nxF x y) := by
  rw [g_Model_next_0]
  unfold nxF
  split <;> rfl
theorem N_on (hW : WO W) (hw : MW W σ) (hf : Lv W (sA σ (ma v)) f) : ev (d + 1) 33 0 [(0, .ref 50), (1, .ref (ma v)), (2, .int x)] [] (mkH σ) = rI σ (onF W f x) := by
  have w4 := hW.1
  rw [g_Model_on_0]
  refine fnd_loop (f := fun k => ev (d + 1) 33 2 [(0, .ref 50), (1, .ref (ma v)), (2, .int x), (3, .int (nI k))] [] (mkH σ)) (R := fun v => rI σ v) (n := wb W) (fun k hk => ?_) ?_
  · show ev (d + 1) 33 2 [(0, .ref 50), (1, .ref (ma v)), (2, .int x), (3, .int (nI k))] [] (mkH σ) = _
    rw [g_Model_on_2, hw.1, if_neg (nI_ge hk (by omega)), ixn (by omega) (by decide), cond_true, cln (by omega), nI_1, (hf.1 k hk).1]
    by_cases hq : f k = x
    · rw [if_pos hq, beq_t hq]; rfl
    · rw [if_neg hq, beq_f hq]; rfl
  · show ev (d + 1) 33 2 [(0, .ref 50), (1, .ref (ma v)), (2, .int x), (3, .int (nI (wb W)))] [] (mkH σ) = _
    rw [g_Model_on_2, hw.1, if_pos (nI_le (Nat.le_refl _) (by omega))]; rfl
theorem N_aboard (hW : WO W) (hw : MW W σ) (hf : Lv W (sA σ (ma v)) f) : ev (d + 1) 45 0 [(0, .ref 50), (1, .ref (ma v)), (2, .int x)] [] (mkH σ) = rI σ (abF W f x) := by
  have w9 := hW.2.1
  rw [g_Model_aboard_0]
  refine acc_loop (f := fun k z => ev (d + 1) 45 5 [(0, .ref 50), (1, .ref (ma v)), (2, .int x), (3, .int z), (4, .int (nI k))] [] (mkH σ)) (R := fun z => rI σ z) (n := wp W) (fun k z hk => ?_) (fun z => ?_) 0
  · show ev (d + 1) 45 5 [(0, .ref 50), (1, .ref (ma v)), (2, .int x), (3, .int z), (4, .int (nI k))] [] (mkH σ) = _
    dsimp only [bitF]
    rw [g_Model_aboard_5, hw.2.1, if_neg (nI_ge hk (by omega)), add16, ixn (by omega) (by decide), cond_true, cln (by omega), nI_1, (hf.2.1 k hk).1]
    by_cases hq : f (16 + k) = x
    · rw [if_pos hq, beq_t hq, cond_true]
    · rw [if_neg hq, beq_f hq, cond_false]
  · show ev (d + 1) 45 5 [(0, .ref 50), (1, .ref (ma v)), (2, .int x), (3, .int z), (4, .int (nI (wp W)))] [] (mkH σ) = _
    rw [g_Model_aboard_5, hw.2.1, if_pos (nI_le (Nat.le_refl _) (by omega))]
theorem shl_0 {p : Nat} (hp : p < 9) : (0 : Int32) <<< (nI p &&& 31) = 0 := by
  match p, hp with
  | 0, _ => decide
  | 1, _ => decide
  | 2, _ => decide
  | 3, _ => decide
  | 4, _ => decide
  | 5, _ => decide
  | 6, _ => decide
  | 7, _ => decide
  | 8, _ => decide
theorem shl_z {p : Nat} (hp : p < 9) (hx : z1 x) : x <<< (nI p &&& 31) = bif !(x == 0) then 1 <<< (nI p &&& 31) else 0 := by
  rcases hx with rfl | rfl
  · rw [shl_0 hp]; rfl
  · rfl
theorem N_awake (hW : WO W) (hw : MW W σ) (ho : OK W f) (hf : Lv W (sA σ (ma v)) f) : ev (d + 1) 46 0 [(0, .ref 50), (1, .ref (ma v))] [] (mkH σ) = rI σ (awF W f) := by
  have w9 := hW.2.1
  rw [g_Model_awake_0]
  refine acc_loop (f := fun k z => ev (d + 1) 46 4 [(0, .ref 50), (1, .ref (ma v)), (2, .int z), (3, .int (nI k))] [] (mkH σ)) (R := fun z => rI σ z) (n := wp W) (fun k z hk => ?_) (fun z => ?_) 0
  · show ev (d + 1) 46 4 [(0, .ref 50), (1, .ref (ma v)), (2, .int z), (3, .int (nI k))] [] (mkH σ) = _
    dsimp only [bitF]
    rw [g_Model_awake_4, hw.2.1, if_neg (nI_ge hk (by omega)), add25, ixn (by omega) (by decide), cond_true, cln (by omega), nI_1, (hf.2.1 k hk).2.1, shl_z (by omega) (ho.2 k hk).2.1]
  · show ev (d + 1) 46 4 [(0, .ref 50), (1, .ref (ma v)), (2, .int z), (3, .int (nI (wp W)))] [] (mkH σ) = _
    rw [g_Model_awake_4, hw.2.1, if_pos (nI_le (Nat.le_refl _) (by omega))]
theorem N_there (hW : WO W) (hw : MW W σ) (ho : OK W f) (hf : Lv W (sA σ (ma v)) f) : ev (d + 1) 61 0 [(0, .ref 50), (1, .ref (ma v))] [] (mkH σ) = rI σ (thF W f) := by
  have w4 := hW.1
  rw [g_Model_there_0]
  refine acc_loop (f := fun k z => ev (d + 1) 61 4 [(0, .ref 50), (1, .ref (ma v)), (2, .int z), (3, .int (nI k))] [] (mkH σ)) (R := fun z => rI σ z) (n := wb W) (fun k z hk => ?_) (fun z => ?_) 0
  · show ev (d + 1) 61 4 [(0, .ref 50), (1, .ref (ma v)), (2, .int z), (3, .int (nI k))] [] (mkH σ) = _
    dsimp only [bitF]
    rw [g_Model_there_4, hw.1, if_neg (nI_ge hk (by omega)), add12, ixn (by omega) (by decide), cond_true, cln (by omega), nI_1, (hf.1 k hk).2.2.2, shl_z (by omega) (ho.1 k hk).2.2.2]
  · show ev (d + 1) 61 4 [(0, .ref 50), (1, .ref (ma v)), (2, .int z), (3, .int (nI (wb W)))] [] (mkH σ) = _
    rw [g_Model_there_4, hw.1, if_pos (nI_le (Nat.le_refl _) (by omega))]
theorem N_thereM (hW : WO W) (hw : MW W σ) (ho : OK W f) (hf : Lv W (sA σ (ma v)) f) : ev (d + 2) 62 0 [(0, .ref 50), (1, .ref (ma v))] [] (mkH σ) = rI σ (tmF W f) := by
  rw [g_Model_thereMany_0, c_Model_thereMany_2 (N_there hW hw ho hf), c_Model_thereMany_5 bc_ev, g_Model_thereMany_8]; rfl
theorem N_breath (hW : WO W) (hw : MW W σ) (hf : Lv W (sA σ (ma v)) f) : ev (d + 1) 53 0 [(0, .ref 50), (1, .ref (ma v))] [] (mkH σ) = rI σ (brF W f) := by
  have w9 := hW.2.1
  rw [g_Model_breathOf_0]
  refine acc_loop (f := fun k z => ev (d + 1) 53 4 [(0, .ref 50), (1, .ref (ma v)), (2, .int z), (3, .int (nI k))] [] (mkH σ)) (R := fun z => rI σ z) (n := wp W) (fun k z hk => ?_) (fun z => ?_) 0
  · show ev (d + 1) 53 4 [(0, .ref 50), (1, .ref (ma v)), (2, .int z), (3, .int (nI k))] [] (mkH σ) = _
    dsimp only
    rw [g_Model_breathOf_4, hw.2.1, if_neg (nI_ge hk (by omega)), add34, ixn (by omega) (by decide), cond_true, cln (by omega), nI_1, (hf.2.1 k hk).2.2]
  · show ev (d + 1) 53 4 [(0, .ref 50), (1, .ref (ma v)), (2, .int z), (3, .int (nI (wp W)))] [] (mkH σ) = _
    rw [g_Model_breathOf_4, hw.2.1, if_pos (nI_le (Nat.le_refl _) (by omega))]
theorem N_hold (hW : WO W) (hw : MW W σ) (ho : OK W f) (hf : Lv W (sA σ (ma v)) f) {b : Nat} : ev (d + 1) 50 0 [(0, .ref 50), (1, .ref (ma v)), (2, .int (nI b))] [] (mkH σ) = rI σ (hoF W f b) := by
  have w9 := hW.2.1
  rw [g_Model_holdOf_0]
  refine acc_loop (f := fun k z => ev (d + 1) 50 5 [(0, .ref 50), (1, .ref (ma v)), (2, .int (nI b)), (3, .int z), (4, .int (nI k))] [] (mkH σ)) (R := fun z => rI σ z) (n := wp W) (fun k z hk => ?_) (fun z => ?_) 0
  · show ev (d + 1) 50 5 [(0, .ref 50), (1, .ref (ma v)), (2, .int (nI b)), (3, .int z), (4, .int (nI k))] [] (mkH σ) = _
    dsimp only [hoG]
    rw [g_Model_holdOf_5, hw.2.1, if_neg (nI_ge hk (by omega)), add16, add25, add34, ixn (by omega) (by decide), cond_true, cln (by omega), nI_1, (hf.2.1 k hk).1]
    by_cases c1 : f (16 + k) = nI b
    · rw [if_pos c1, ixn (by omega) (by decide), cond_true, cln (by omega), (hf.2.1 k hk).2.1]
      by_cases c2 : f (25 + k) = 0
      · rw [if_neg (by rw [c2]; decide), if_neg (fun z => z.2 c2), Int32.add_zero]
      · rw [if_pos (z1_n0 (ho.2 k hk).2.1 c2), ixn (by omega) (by decide), cond_true, cln (by omega), (hf.2.1 k hk).2.2, if_pos ⟨c1, c2⟩]
    · rw [if_neg c1, if_neg (fun z => c1 z.1), Int32.add_zero]
  · show ev (d + 1) 50 5 [(0, .ref 50), (1, .ref (ma v)), (2, .int (nI b)), (3, .int z), (4, .int (nI (wp W)))] [] (mkH σ) = _
    rw [g_Model_holdOf_5, hw.2.1, if_pos (nI_le (Nat.le_refl _) (by omega))]
theorem N_end (hW : WO W) (hw : MW W σ) (hf : Lv W (sA σ (ma v)) f) {b : Nat} (hb : b < wb W) : ev (d + 1) 57 0 [(0, .ref 50), (1, .ref (ma v)), (2, .int (nI b))] [] (mkH σ) = rI σ (bif aeF W f b then 1 else 0) := by
  have w4 := hW.1
  rw [g_Model_isAtEnd_0, add4, ixn (by omega) (by decide), cond_true, ixn (by omega) (by decide), cond_true, cln (by omega), cln (by omega), (hf.1 b hb).1, (hf.1 b hb).2.1, hw.2.2.1]
  unfold aeF
  by_cases c1 : f (4 + b) = 0
  · rw [if_pos c1, if_pos c1]
    by_cases c2 : f b = nI (wc W) - 1
    · rw [if_pos c2, beq_t c2]; rfl
    · rw [if_neg c2, beq_f c2]; rfl
  · rw [if_neg c1, if_neg c1]
    by_cases c2 : f b = 0
    · rw [if_pos c2, beq_t c2]; rfl
    · rw [if_neg c2, beq_f c2]; rfl
theorem N_refC (hW : WO W) (hw : MW W σ) (ho : OK W f) (hf : Lv W (sA σ (ma v)) f) : ev (d + 3) 64 0 [(0, .ref 50), (1, .ref (ma v)), (2, .int x), (3, .int y)] [] (mkH σ) = rI σ (rcF W f x y) := by
  have w4 := hW.1
  have w9 := hW.2.1
  rw [g_Model_refusesChange_0, c_Model_refusesChange_2 (N_isM hW hw), g_Model_refusesChange_5]
  unfold rcF
  cases hx : ax_ix x (wp W) with
  | false => rw [cond_false, if_pos rfl]; rfl
  | true =>
    rw [cond_true, if_neg (by decide), c_Model_refusesChange_10 (N_isB hW hw), g_Model_refusesChange_13]
    cases hy : ax_ix y (wb W) with
    | false => rw [cond_false, if_pos rfl]; rfl
    | true =>
      obtain ⟨p, hp, hp2, rfl⟩ := ix_of hx
      obtain ⟨b, hb, hb2, rfl⟩ := ix_of hy
      have hz := (ho.2 p hp).1
      rw [cond_true, if_neg (by decide), add16, ixn (by omega) (by decide), cond_true, cond_true, cln (by omega), cln (by omega), cln (by omega), (hf.2.1 p hp).1, ix_mono hz (by omega) (by decide), cond_true, ixn (by omega) (by decide), cond_true, Bool.and_self, cond_true, (hf.1 _ (ix_lt hz)).1, (hf.1 b hb).1]
      by_cases c1 : f (16 + p) = nI b
      · rw [if_pos c1, if_pos c1]; rfl
      · rw [if_neg c1, if_neg c1]
        by_cases c2 : asF (f (Int32.toNatClampNeg (f (16 + p))) - f b) = 1
        · rw [if_pos c2]; exact (if_pos c2)
        · rw [if_neg c2]; exact (if_neg c2)
end MLEAF
