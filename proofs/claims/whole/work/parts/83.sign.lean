/-! sign, blows -/
section SG
variable {d m x k : Nat} {σ τ : Sg} {W : Wd} {f g : Nat → Int32} {K : List Nat}
theorem b255 : ∀ i, i < 32 → BitVec.getLsbD (255#32) i = decide (i < 8) := by decide
theorem m255 (y : BitVec 32) : (y &&& 255#32) % 65536#32 = y &&& 255#32 := by
  apply BitVec.eq_of_toNat_eq
  rw [BitVec.toNat_umod]
  refine Nat.mod_eq_of_lt ?_
  rw [BitVec.toNat_and]
  exact Nat.lt_of_le_of_lt Nat.and_le_right (by decide)
theorem sgn1 {x : Int32} {s : Nat} (hs : s = 0 ∨ s = 8 ∨ s = 16 ∨ s = 24) : ((Int32.toInt8 ((Int32.toInt8 (x >>> nI s)).toInt32)).toInt32) &&& 255 = (Int32.toUInt32 ((Int32.toUInt32 (((Int32.toUInt32 x >>> Int32.toUInt32 (nI s)).toInt32) &&& 255) % 65536).toInt32) % 65536).toInt32 := by
  apply Int32.toBitVec_inj.mp
  apply BitVec.eq_of_getLsbD_eq
  intro i hi
  simp
  have e1 : ((nI s).toBitVec.smod 32#32).toNat = s := by rcases hs with e | e | e | e <;> subst e <;> decide
  have e2 : (nI s).toBitVec.toNat % 32 = s := by rcases hs with e | e | e | e <;> subst e <;> decide
  rw [e1, e2, m255, m255, BitVec.getLsbD_and, b255 i hi, BitVec.getLsbD_ushiftRight]
  by_cases h8 : i < 8
  · rw [decide_eq_true h8, Bool.and_true, Bool.and_true, BitVec.getLsbD_signExtend, BitVec.getLsbD_signExtend, BitVec.getLsbD_sshiftRight]
    have : s + i < 32 := by omega
    simp [hi, h8, this]
  · rw [decide_eq_false h8, Bool.and_false, Bool.and_false]
/-- one sign of four -/
def ch1 (x : Int32) (s : Nat) : Int32 := (Int32.toUInt32 ((Int32.toUInt32 (((Int32.toUInt32 x >>> Int32.toUInt32 (nI s)).toInt32) &&& 255) % 65536).toInt32) % 65536).toInt32
def by1 (x : Int32) (s : Nat) : Int32 := (Int32.toInt8 ((Int32.toInt8 (x >>> nI s)).toInt32)).toInt32
theorem by1_b {x : Int32} {s : Nat} : (Int32.toInt8 (by1 x s)).toInt32 = by1 x s := by
  unfold by1
  simp
theorem op_sign : Op_sign 400 INV := by
  intro d hd k σ x _ h
  obtain ⟨d, rfl⟩ : ∃ e, d = e + 10 := ⟨d - 10, by omega⟩
  have h0 := h
  obtain ⟨W, f, ⟨c, m, b3, b2⟩, ⟨n, n1, n2, n3, n4⟩, to, go, pa, ke⟩ := h
  have a0 : Ag [3210] σ (uI σ 3210 0) := Ag.I Ag.rf rfl
  have e80 : nI n + (4 : Int32) = nI (n + 4) := nI_add n 4
  rcases Nat.lt_or_ge 80 (n + 4) with hn | hn
  · have hq : ¬ nI (n + 4) ≤ (80 : Int32) := nI_ge (a := 80) (b := n + 4) hn (by omega)
    refine ⟨σ, uI σ 3210 0, -1, ?_, ?_, rfl, rfl, rfl, h0.keep a0 (to.ag a0 rfl rfl) (by decide) (by decide) (by decide) (by decide) (by decide) (by decide) (by decide)⟩
    · have e1 : ev (d + 9) 200 0 [(0, .ref 1), (1, .int x)] [] (mkH σ) = rI σ 0 := by rw [g_Script_add_0, n2, e80, if_neg hq]
      rw [g_Main_sign_0, c_Main_sign_5 e1, g_Main_sign_8, if_pos rfl]; rfl
    · rw [g_Model_sign_0, n3, e80, if_neg hq]; rfl
  · have hq : nI (n + 4) ≤ (80 : Int32) := show nI (n + 4) ≤ nI 80 from nI_le hn (by decide)
    have s1 : ∀ (τ : Sg) (q : Nat) (y z : Int32) (s : Nat), q < 80 → sI τ 65 = nI q → ¬ y < 0 → y = nI s → Int32.toUInt32 (nI s) &&& Int32.toUInt32 31 = Int32.toUInt32 (nI s) → y + Int32.ofInt (-8) = z → ev (d + 9) 200 16 [(0, .ref 1), (1, .int x), (2, .int y)] [] (mkH τ) = ev (d + 9) 200 16 [(0, .ref 1), (1, .int x), (2, .int z)] [] (mkH (uI (uA τ 2 q (ch1 x s)) 65 (nI (q + 1)))) := by
      intro τ q y z s hq e1 e2 e3 e5 e4
      subst e3
      rw [g_Script_add_16, if_neg e2, e1, ixn (k := q) (n := 80) hq (by decide), cond_true, cln (n := q) (by omega), e4, nI_1, nar_ch, e5]
      rfl
    have s2 : ∀ (τ : Sg) (q : Nat) (y z : Int32) (s : Nat), q < 80 → sI τ 3207 = nI q → ¬ y < 0 → (8 * y) &&& 31 = nI s → y + Int32.ofInt (-1) = z → ev (d + 10) 18 20 [(0, .ref 50), (1, .int x), (2, .int y)] [] (mkH τ) = ev (d + 10) 18 20 [(0, .ref 50), (1, .int x), (2, .int z)] [] (mkH (uA (uI τ 3207 (nI (q + 1))) 54 q (by1 x s))) := by
      intro τ q y z s hq e1 e2 e3 e4
      rw [g_Model_sign_20, if_neg e2, e1, ixn (k := q) (n := 80) hq (by decide), cond_true, cln (n := q) (by omega), e3, e4, nI_1, nar_by]
      rfl
    have t24 := s1 σ n 24 16 24 (by omega) n2 (by decide) rfl (by decide) (by decide)
    have t16 := s1 (uI (uA σ 2 n (ch1 x 24)) 65 (nI (n + 1))) (n + 1) 16 8 16 (by omega) I_S (by decide) rfl (by decide) (by decide)
    have t8 := s1 (uI (uA (uI (uA σ 2 n (ch1 x 24)) 65 (nI (n + 1))) 2 (n + 1) (ch1 x 16)) 65 (nI (n + 1 + 1))) (n + 1 + 1) 8 0 8 (by omega) I_S (by decide) rfl (by decide) (by decide)
    have t0 := s1 (uI (uA (uI (uA (uI (uA σ 2 n (ch1 x 24)) 65 (nI (n + 1))) 2 (n + 1) (ch1 x 16)) 65 (nI (n + 1 + 1))) 2 (n + 1 + 1) (ch1 x 8)) 65 (nI (n + 1 + 1 + 1))) (n + 1 + 1 + 1) 0 (Int32.ofInt (-8)) 0 (by omega) I_S (by decide) rfl (by decide) (by decide)
    have aσ1 : Ag [65, 10002] σ (uI (uA (uI (uA (uI (uA (uI (uA σ 2 n (ch1 x 24)) 65 (nI (n + 1))) 2 (n + 1) (ch1 x 16)) 65 (nI (n + 1 + 1))) 2 (n + 1 + 1) (ch1 x 8)) 65 (nI (n + 1 + 1 + 1))) 2 (n + 1 + 1 + 1) (ch1 x 0)) 65 (nI (n + 1 + 1 + 1 + 1))) := Ag.I (Ag.A (Ag.I (Ag.A (Ag.I (Ag.A (Ag.I (Ag.A Ag.rf rfl) rfl) rfl) rfl) rfl) rfl) rfl) rfl
    have e2 : sA (uI (uA (uI (uA (uI (uA (uI (uA σ 2 n (ch1 x 24)) 65 (nI (n + 1))) 2 (n + 1) (ch1 x 16)) 65 (nI (n + 1 + 1))) 2 (n + 1 + 1) (ch1 x 8)) 65 (nI (n + 1 + 1 + 1))) 2 (n + 1 + 1 + 1) (ch1 x 0)) 65 (nI (n + 1 + 1 + 1 + 1))) 2 = upd (upd (upd (upd (sA σ 2) n (ch1 x 24)) (n + 1) (ch1 x 16)) (n + 1 + 1) (ch1 x 8)) (n + 1 + 1 + 1) (ch1 x 0) := rfl
    have e65 : sI (uI (uA (uI (uA (uI (uA (uI (uA σ 2 n (ch1 x 24)) 65 (nI (n + 1))) 2 (n + 1) (ch1 x 16)) 65 (nI (n + 1 + 1))) 2 (n + 1 + 1) (ch1 x 8)) 65 (nI (n + 1 + 1 + 1))) 2 (n + 1 + 1 + 1) (ch1 x 0)) 65 (nI (n + 1 + 1 + 1 + 1))) 65 = nI (n + 1 + 1 + 1 + 1) := I_S
    have e1 : ev (d + 9) 200 0 [(0, .ref 1), (1, .int x)] [] (mkH σ) = rI (uI (uA (uI (uA (uI (uA (uI (uA σ 2 n (ch1 x 24)) 65 (nI (n + 1))) 2 (n + 1) (ch1 x 16)) 65 (nI (n + 1 + 1))) 2 (n + 1 + 1) (ch1 x 8)) 65 (nI (n + 1 + 1 + 1))) 2 (n + 1 + 1 + 1) (ch1 x 0)) 65 (nI (n + 1 + 1 + 1 + 1))) 1 := by
      rw [g_Script_add_0, n2, e80, if_pos hq, t24, t16, t8, t0, g_Script_add_16, if_pos (by decide)]
    clear t24 t16 t8 t0
    generalize uI (uA (uI (uA (uI (uA (uI (uA σ 2 n (ch1 x 24)) 65 (nI (n + 1))) 2 (n + 1) (ch1 x 16)) 65 (nI (n + 1 + 1))) 2 (n + 1 + 1) (ch1 x 8)) 65 (nI (n + 1 + 1 + 1))) 2 (n + 1 + 1 + 1) (ch1 x 0)) 65 (nI (n + 1 + 1 + 1 + 1)) = σ1 at aσ1 e2 e65 e1
    have q7 : sI (uI σ1 3210 0) 3207 = nI n := (aσ1.1 3207 rfl).trans n3
    have q7' : sI σ1 3207 = nI n := q7
    have u3 := s2 (uI σ1 3210 0) n 3 2 24 (by omega) q7 (by decide) (by decide) (by decide)
    have u2 := s2 (uA (uI (uI σ1 3210 0) 3207 (nI (n + 1))) 54 n (by1 x 24)) (n + 1) 2 1 16 (by omega) rfl (by decide) (by decide) (by decide)
    have u1 := s2 (uA (uI (uA (uI (uI σ1 3210 0) 3207 (nI (n + 1))) 54 n (by1 x 24)) 3207 (nI (n + 1 + 1))) 54 (n + 1) (by1 x 16)) (n + 1 + 1) 1 0 8 (by omega) rfl (by decide) (by decide) (by decide)
    have u0 := s2 (uA (uI (uA (uI (uA (uI (uI σ1 3210 0) 3207 (nI (n + 1))) 54 n (by1 x 24)) 3207 (nI (n + 1 + 1))) 54 (n + 1) (by1 x 16)) 3207 (nI (n + 1 + 1 + 1))) 54 (n + 1 + 1) (by1 x 8)) (n + 1 + 1 + 1) 0 (Int32.ofInt (-1)) 0 (by omega) rfl (by decide) (by decide) (by decide)
    have aσ2 : Ag [3210, 3207, 10054] σ1 (uA (uI (uA (uI (uA (uI (uA (uI (uI σ1 3210 0) 3207 (nI (n + 1))) 54 n (by1 x 24)) 3207 (nI (n + 1 + 1))) 54 (n + 1) (by1 x 16)) 3207 (nI (n + 1 + 1 + 1))) 54 (n + 1 + 1) (by1 x 8)) 3207 (nI (n + 1 + 1 + 1 + 1))) 54 (n + 1 + 1 + 1) (by1 x 0)) := Ag.A (Ag.I (Ag.A (Ag.I (Ag.A (Ag.I (Ag.A (Ag.I (Ag.I Ag.rf rfl) rfl) rfl) rfl) rfl) rfl) rfl) rfl) rfl
    have e54 : sA (uA (uI (uA (uI (uA (uI (uA (uI (uI σ1 3210 0) 3207 (nI (n + 1))) 54 n (by1 x 24)) 3207 (nI (n + 1 + 1))) 54 (n + 1) (by1 x 16)) 3207 (nI (n + 1 + 1 + 1))) 54 (n + 1 + 1) (by1 x 8)) 3207 (nI (n + 1 + 1 + 1 + 1))) 54 (n + 1 + 1 + 1) (by1 x 0)) 54 = upd (upd (upd (upd (sA σ1 54) n (by1 x 24)) (n + 1) (by1 x 16)) (n + 1 + 1) (by1 x 8)) (n + 1 + 1 + 1) (by1 x 0) := rfl
    have e07 : sI (uA (uI (uA (uI (uA (uI (uA (uI (uI σ1 3210 0) 3207 (nI (n + 1))) 54 n (by1 x 24)) 3207 (nI (n + 1 + 1))) 54 (n + 1) (by1 x 16)) 3207 (nI (n + 1 + 1 + 1))) 54 (n + 1 + 1) (by1 x 8)) 3207 (nI (n + 1 + 1 + 1 + 1))) 54 (n + 1 + 1 + 1) (by1 x 0)) 3207 = nI (n + 1 + 1 + 1 + 1) := rfl
    have e3 : ev (d + 10) 18 0 [(0, .ref 50), (1, .int x)] [] (mkH σ1) = rI (uA (uI (uA (uI (uA (uI (uA (uI (uI σ1 3210 0) 3207 (nI (n + 1))) 54 n (by1 x 24)) 3207 (nI (n + 1 + 1))) 54 (n + 1) (by1 x 16)) 3207 (nI (n + 1 + 1 + 1))) 54 (n + 1 + 1) (by1 x 8)) 3207 (nI (n + 1 + 1 + 1 + 1))) 54 (n + 1 + 1 + 1) (by1 x 0)) (nI (n + 1 + 1 + 1 + 1)) := by
      rw [g_Model_sign_0, q7', e80, if_pos hq, u3, u2, u1, u0, g_Model_sign_20, if_pos (by decide), e07]
    clear u3 u2 u1 u0
    generalize uA (uI (uA (uI (uA (uI (uA (uI (uI σ1 3210 0) 3207 (nI (n + 1))) 54 n (by1 x 24)) 3207 (nI (n + 1 + 1))) 54 (n + 1) (by1 x 16)) 3207 (nI (n + 1 + 1 + 1))) 54 (n + 1 + 1) (by1 x 8)) 3207 (nI (n + 1 + 1 + 1 + 1))) 54 (n + 1 + 1 + 1) (by1 x 0) = σ2 at aσ2 e54 e07 e3
    have aa : Ag [65, 10002, 3210, 3207, 10054] σ σ2 := (aσ1.wk rfl).tr (aσ2.wk rfl)
    refine ⟨σ1, σ2, nI (n + 1 + 1 + 1 + 1), ?_, e3, aσ1.2.2.2.2.2.2, aa.2.2.2.2.2.2, aa.2.2.2.2.2.1, ?_⟩
    · rw [g_Main_sign_0, c_Main_sign_5 e1, g_Main_sign_8, if_neg (by decide), e65]
    · refine h0.of (c.ag aa rfl) (m.ag aa rfl) (aa.2.2.2.1 3 rfl) (aa.2.2.2.1 2 rfl) (aa.2.2.2.1 0 rfl) ⟨n + 1 + 1 + 1 + 1, by omega, (aσ2.1 65 rfl).trans e65, e07, fun i hi => ?_⟩ (to.ag aa rfl rfl) (go.ag aa rfl) (pa.ag aa rfl) (ke.ag aa rfl).mono
      rw [aσ2.2.1 2 rfl, e54, e2, aσ1.2.1 54 rfl]
      by_cases i3 : i = n + 1 + 1 + 1
      · subst i3; rw [upS, upS]; exact ⟨sgn1 (Or.inl rfl), by1_b⟩
      · rw [upN i3, upN i3]
        by_cases i2 : i = n + 1 + 1
        · subst i2; rw [upS, upS]; exact ⟨sgn1 (Or.inr (Or.inl rfl)), by1_b⟩
        · rw [upN i2, upN i2]
          by_cases i1 : i = n + 1
          · subst i1; rw [upS, upS]; exact ⟨sgn1 (Or.inr (Or.inr (Or.inl rfl))), by1_b⟩
          · rw [upN i1, upN i1]
            by_cases i0 : i = n
            · subst i0; rw [upS, upS]; exact ⟨sgn1 (Or.inr (Or.inr (Or.inr rfl))), by1_b⟩
            · rw [upN i0, upN i0]; exact n4 i (by omega)
end SG
