/-! barges: the lines -/
def RW : Type := (Nat → Int32) × (Nat → Int32) × (Nat → Int32)
/-- the rows with one line more -/
def bnR (T : Nat → Int32) (e b a : Nat) (R : RW) : RW := (upd R.1 b (nI (plV T e a)), upd R.2.1 b (if heF T e (a + plN T e a) = 45 then 1 else 0), upd R.2.2 b (heF T e (a + plN T e a + 1) - 48))
def bmS (T : Nat → Int32) (e : Nat) (W : Wd) : Nat → Nat → Nat → RW → Bool × Nat × Nat × RW
  | 0, b, a, R => (false, a, b, R)
  | k + 1, b, a, R => match bfF T e W R.1 b a with
    | some q => (false, q, b, R)
    | none => if heF T e (a + plN T e a + 2) = 59 then bmS T e W k (b + 1) (a + plN T e a + 3) (bnR T e b a R) else (true, a + plN T e a + 2, b + 1, bnR T e b a R)
section BM
variable {T : Nat → Int32} {e b a k q z : Nat} {W : Wd} {R S : RW}
theorem bm_some (h : bfF T e W R.1 b a = some q) : bmS T e W (k + 1) b a R = (false, q, b, R) := by
  unfold bmS; rw [h]
theorem bm_none (h : bfF T e W R.1 b a = none) : bmS T e W (k + 1) b a R = if heF T e (a + plN T e a + 2) = 59 then bmS T e W k (b + 1) (a + plN T e a + 3) (bnR T e b a R) else (true, a + plN T e a + 2, b + 1, bnR T e b a R) := by
  rw [bmS]; rw [h]
theorem pl_12 : plN T e a = 1 ∨ plN T e a = 2 := by unfold plN; split; exact Or.inl rfl; exact Or.inr rfl
theorem bf_q {r : Nat → Int32} (h : bfF T e W r b a = some q) : q ≤ a + 3 := by
  have n12 := pl_12 (T := T) (e := e) (a := a)
  unfold bfF at h
  split at h
  · have := Option.some.inj h; omega
  · cases hf : frB W r b (plV T e a) with
    | true =>
      rw [hf, cond_true] at h
      split at h
      · split at h
        · have := Option.some.inj h; omega
        · cases h
      · have := Option.some.inj h; omega
    | false =>
      rw [hf, cond_false] at h
      have := Option.some.inj h; omega
theorem bf_no {r : Nat → Int32} (h : bfF T e W r b a = none) : plV T e a < wc W ∧ ¬ inF (heF T e (a + plN T e a + 1)) 48 57 = 0 := by
  unfold bfF at h
  split at h
  · cases h
  · cases hf : frB W r b (plV T e a) with
    | true =>
      rw [hf, cond_true] at h
      split at h
      · split at h
        · cases h
        · rename_i z
          refine ⟨?_, z⟩
          unfold frB at hf
          rw [Bool.and_eq_true] at hf
          exact of_decide_eq_true hf.1
      · cases h
    | false =>
      rw [hf, cond_false] at h
      cases h
theorem bf_lt {r : Nat → Int32} (h : bfF T e W r b a = none) : a + plN T e a + 1 < e := by
  obtain ⟨j, j1, _, j3⟩ := dg_n (bf_no h).2
  exact he_lt j3 (by omega)
theorem bm_bad : ∀ k b a (R : RW), bmS T e W k b a R = (false, q, z, S) → q ≤ a + 5 * k + 3
  | 0, b, a, R, h => by
    have : a = q := congrArg (fun p => p.2.1) h
    omega
  | k + 1, b, a, R, h => by
    have n12 := pl_12 (T := T) (e := e) (a := a)
    cases hp : bfF T e W R.1 b a with
    | some q' =>
      rw [bm_some hp] at h
      have : q' = q := congrArg (fun p => p.2.1) h
      have := bf_q hp
      omega
    | none =>
      rw [bm_none hp] at h
      by_cases z1 : heF T e (a + plN T e a + 2) = 59
      · rw [if_pos z1] at h
        have := bm_bad k _ _ _ h
        omega
      · rw [if_neg z1] at h
        have : true = false := congrArg (fun p => p.1) h
        cases this
/-- what a new barge's row holds -/
def bGd (W : Wd) (R : RW) (B b : Nat) : Prop := ∀ i, B ≤ i → i < b → ax_ix (R.1 i) (wc W) = true ∧ z1 (R.2.1 i) ∧ n9 (R.2.2 i)
theorem bm_gd {B : Nat} (hW : WO W) (hp : bfF T e W R.1 b a = none) (h : bGd W R B b) : bGd W (bnR T e b a R) B (b + 1) := fun i h1 h2 => by
  have w30 := hW.2.2.2.1
  show ax_ix (upd R.1 b _ i) (wc W) = true ∧ z1 (upd R.2.1 b _ i) ∧ n9 (upd R.2.2 b _ i)
  by_cases e1 : i = b
  · subst e1
    rw [upS, upS, upS]
    obtain ⟨p1, p2⟩ := bf_no hp
    obtain ⟨j, j1, j2, _⟩ := dg_n p2
    refine ⟨ixn p1 (by omega), ?_, ⟨j, by omega, j2⟩⟩
    split
    · exact Or.inr rfl
    · exact Or.inl rfl
  · rw [upN e1, upN e1, upN e1]
    exact h i h1 (by omega)
theorem bm_ok {B : Nat} (hW : WO W) : ∀ k b a (R : RW), bmS T e W k b a R = (true, q, z, S) → bGd W R B b → b < z ∧ z ≤ b + k ∧ q ≤ e ∧ bGd W S B z ∧ ∀ i, i < b → S.1 i = R.1 i ∧ S.2.1 i = R.2.1 i ∧ S.2.2 i = R.2.2 i
  | 0, b, a, R, h, _ => by
    have : false = true := congrArg (fun p => p.1) h
    cases this
  | k + 1, b, a, R, h, g => by
    cases hp : bfF T e W R.1 b a with
    | some q' =>
      rw [bm_some hp] at h
      have : false = true := congrArg (fun p => p.1) h
      cases this
    | none =>
      have g2 := bm_gd hW hp g
      have old : ∀ i, i < b → (bnR T e b a R).1 i = R.1 i ∧ (bnR T e b a R).2.1 i = R.2.1 i ∧ (bnR T e b a R).2.2 i = R.2.2 i := fun i hi => ⟨upN (by omega), upN (by omega), upN (by omega)⟩
      have := bf_lt hp
      rw [bm_none hp] at h
      by_cases z1 : heF T e (a + plN T e a + 2) = 59
      · rw [if_pos z1] at h
        obtain ⟨q1, q2, q3, q4, q5⟩ := bm_ok hW k _ _ _ h g2
        refine ⟨by omega, by omega, q3, q4, fun i hi => ?_⟩
        obtain ⟨s1, s2, s3⟩ := q5 i (by omega)
        obtain ⟨t1, t2, t3⟩ := old i hi
        exact ⟨s1.trans t1, s2.trans t2, s3.trans t3⟩
      · rw [if_neg z1] at h
        have e1 : a + plN T e a + 2 = q := congrArg (fun p => p.2.1) h
        have e2 : b + 1 = z := congrArg (fun p => p.2.2.1) h
        have e3 : bnR T e b a R = S := congrArg (fun p => p.2.2.2) h
        subst e1 e2 e3
        exact ⟨by omega, by omega, by omega, g2, old⟩
end BM
section BL
variable {d n e B : Nat} {σ τ ρ : Sg} {T f : Nat → Int32} {W : Wd} {K : List Nat} {x y : Int32}
def OlB (σ ρ : Sg) (P : Nat) : Prop := ∀ i, i < P → sA ρ 10 i = sA σ 10 i ∧ sA ρ 11 i = sA σ 11 i ∧ sA ρ 12 i = sA σ 12 i ∧ sA ρ 13 i = sA σ 13 i
def LbC (ρ : Sg) (R : RW) (B b : Nat) : Prop := sA ρ 10 = R.1 ∧ sA ρ 11 = R.2.1 ∧ sA ρ 12 = R.2.2 ∧ ∀ i, B ≤ i → i < b → sA ρ 13 i = 0
theorem C_boats (hW : WO W) (he : e ≤ 40) : ∀ (k b a : Nat) (R : RW) (ρ : Sg), b + k = 4 → wb W ≤ b → a + 5 * k ≤ 900 → CT ρ T e a → CC W ρ → sI ρ 325 = nI (wb W) → Ag kBt σ ρ → OlB σ ρ (wb W) → LbC ρ R (wb W) b → RnI (ev (d + 4) 138 20 [(0, .ref 5), (1, .ref 1), (2, .int (nI b))] [] (mkH ρ)) (fun τ y => Ag kBt σ τ ∧ OlB σ τ (wb W) ∧ (∀ q z S, bmS T e W k b a R = (false, q, z, S) → y = -1 ∧ sI τ 66 = nI q) ∧ (∀ q z S, bmS T e W k b a R = (true, q, z, S) → y = nI (z - wb W) ∧ sI τ 66 = nI q ∧ LbC τ S (wb W) z)) := by
  have w4 := hW.1
  intro k
  induction k with
  | zero =>
    intro b a R ρ hk hb ha h1 h2 h3 h4 h5 h6
    rw [g_Fleet_draftBarges_20, if_pos (show (4 : Int32) ≤ nI b from nI_le (a := 4) (b := b) (by omega) (by omega)), m1]
    refine RnI.mk ⟨h4, h5, fun q z S hq => ⟨rfl, ?_⟩, fun q z S hz => ?_⟩
    · have : a = q := congrArg (fun p => p.2.1) hq
      rw [← this]; exact h1.1
    · have : false = true := congrArg (fun p => p.1) hz
      cases this
  | succ k ih =>
    intro b a R ρ hk hb ha h1 h2 h3 h4 h5 h6
    have n12 := pl_12 (T := T) (e := e) (a := a)
    obtain ⟨m1', m2'⟩ := C_line (d := d) (b := b) h1 (by omega) hW h2 (by omega)
    rw [h6.1] at m1' m2'
    rw [g_Fleet_draftBarges_20, if_neg (show ¬ (4 : Int32) ≤ nI b from nI_ge (a := b) (b := 4) (by omega) (by decide))]
    cases hp : bfF T e W R.1 b a with
    | some q =>
      obtain ⟨τ, y, e1, e2, rfl, e4, e5⟩ := m1' q hp
      rw [c_Fleet_draftBarges_28 e1, g_Fleet_draftBarges_31, if_pos rfl, m1, bm_some hp]
      refine RnI.mk ⟨h4.tr e2, fun i hi => ?_, fun q' z S hq => ⟨rfl, ?_⟩, fun q' z S hz => ?_⟩
      · obtain ⟨s1, s2, s3, s4⟩ := e5 i (by omega)
        rw [s1, s2, s3, s4]; exact h5 i hi
      · have : q = q' := congrArg (fun p => p.2.1) hq
        rw [← this]; exact e4
      · have : false = true := congrArg (fun p => p.1) hz
        cases this
    | none =>
      obtain ⟨τ, y, e1, e2, rfl, e4, e5, e6, e7, e8⟩ := m2' hp
      have hl := C_look (d := d + 2) e4
      have o5 : OlB σ τ (wb W) := fun i hi => by
        rw [e5, e6, e7, e8, ← h6.1, upN (by omega), upN (by omega), upN (by omega), upN (by omega)]; exact h5 i hi
      have o6 : LbC τ (bnR T e b a R) (wb W) (b + 1) := by
        refine ⟨e5, ?_, ?_, fun i i1 i2 => ?_⟩
        · rw [e6, h6.2.1]; rfl
        · rw [e7, h6.2.2.1]; rfl
        · rw [e8]
          by_cases z : i = b
          · subst z; rw [upS]
          · rw [upN z]; exact h6.2.2.2 i i1 (by omega)
      have o4 : Ag kBt σ τ := h4.tr e2
      have c2 := h2.ag e2 rfl
      have s325 : sI τ 325 = nI (wb W) := (e2.1 325 rfl).trans h3
      rw [c_Fleet_draftBarges_28 e1, g_Fleet_draftBarges_31, if_neg (by decide), c_Fleet_draftBarges_37 hl, g_Fleet_draftBarges_40, bm_none hp]
      by_cases z : heF T e (a + plN T e a + 2) = 59
      · rw [if_pos z, if_pos z, e4.1, nI_1, nI_1]
        have a1 : Ag [66] τ (uI τ 66 (nI (a + plN T e a + 2 + 1))) := Ag.I Ag.rf rfl
        exact ih (b + 1) (a + plN T e a + 3) (bnR T e b a R) (uI τ 66 (nI (a + plN T e a + 2 + 1))) (by omega) (by omega) (by omega) (e4.nx (by omega) rfl) (c2.ag a1 rfl) s325 (o4.tr (a1.wk rfl)) o5 o6
      · rw [if_neg z, if_neg z, s325, nI_1, nI_sub (a := b + 1) (b := wb W) (by omega)]
        refine RnI.mk ⟨o4, o5, fun q z S hq => ?_, fun q z S hw => ?_⟩
        · have : true = false := congrArg (fun p => p.1) hq
          cases this
        · have t1 : a + plN T e a + 2 = q := congrArg (fun p => p.2.1) hw
          have t2 : b + 1 = z := congrArg (fun p => p.2.2.1) hw
          have t3 : bnR T e b a R = S := congrArg (fun p => p.2.2.2) hw
          subst t1 t2 t3
          exact ⟨rfl, e4.1, o6⟩
def LbM (ρ : Sg) (R : RW) (B c : Nat) : Prop := ∀ j, j < c → sA ρ 56 (3 * j) = R.1 (B + j) ∧ sA ρ 56 (3 * j + 1) = R.2.1 (B + j) ∧ sA ρ 56 (3 * j + 2) = R.2.2 (B + j)
theorem M_boats (hW : WO W) : ∀ (k c a : Nat) (R : RW) (ρ : Sg), wb W + c + k = 4 → a + 5 * k ≤ 100 → RD ρ T n 19 a → sI ρ 3215 = -1 → MW W ρ → Lv W (sA ρ 51) f → (∀ i, i < wb W → R.1 i = f i) → LbM ρ R (wb W) c →
    (∀ q z S, bmS T (min n 19) W k (wb W + c) a R = (false, q, z, S) → RnI (ev (d + 6) 35 24 [(0, .ref 50), (1, .int (nI c)), (2, .int 1)] [] (mkH ρ)) (fun τ y => Ag kTm ρ τ ∧ y = -1 - nI q)) ∧
    (∀ q z S, bmS T (min n 19) W k (wb W + c) a R = (true, q, z, S) → (q < n → RnI (ev (d + 6) 35 24 [(0, .ref 50), (1, .int (nI c)), (2, .int 1)] [] (mkH ρ)) (fun τ y => Ag kTm ρ τ ∧ y = -1 - nI q)) ∧
      (n ≤ q → ∃ τ, Ag kTm ρ τ ∧ LbM τ S (wb W) (z - wb W) ∧ ev (d + 6) 35 24 [(0, .ref 50), (1, .int (nI c)), (2, .int 1)] [] (mkH ρ) = ev (d + 6) 35 90 [(0, .ref 50), (1, .int (nI (z - wb W))), (2, .int 0), (3, .int 0)] [] (mkH τ))) := by
  have w4 := hW.1
  have bad : ∀ {q b : Nat} {s : Sg} {x x2 : Int32}, q ≤ 200 → RD s T n 19 b → sI s 3215 = nI q → ∀ {ρ : Sg}, Ag kTm ρ s → RnI (ev (d + 6) 35 67 [(0, .ref 50), (1, .int x), (2, .int x2)] [.int 59, .ref 50] (mkH s)) (fun τ y => Ag kTm ρ τ ∧ y = -1 - nI q) := fun {q b s x x2} hq h hw {ρ} g => by
    have nw : ¬ sI s 3215 = -1 := by rw [hw]; exact nI_nm1 (by omega)
    rw [c_Model_barges_67 (N_passes0 (d := d + 3) nw), g_Model_barges_70, g_Model_barges_24, if_pos rfl, c_Model_barges_75 (N_right0 (d := d + 2) h nw), g_Model_barges_78, if_pos rfl, m1, hw]
    exact RnI.mk ⟨g, rfl⟩
  intro k
  induction k with
  | zero =>
    intro c a R ρ hk ha h1 h2 h3 h4 h5 h6
    refine ⟨fun q z S hq => ?_, fun q z S hz => ?_⟩
    · have : a = q := congrArg (fun p => p.2.1) hq
      subst this
      have a1 : Ag [3215] ρ (uI ρ 3215 (nI a)) := Ag.I Ag.rf rfl
      rw [g_Model_barges_24, if_neg (by decide), c_Model_barges_29 (N_fine1 (d := d + 4) h2), g_Model_barges_32, if_neg (by decide), h3.1, nI_add, if_pos (show nI (wb W + c) = (4 : Int32) by rw [show wb W + c = 4 by omega]; rfl), h1.2.2.1, c_Model_barges_50 (N_fault1 (d := d + 3) h2), g_Model_barges_53]
      exact bad (by omega) (h1.ag a1 rfl) I_S (a1.wk rfl)
    · have : false = true := congrArg (fun p => p.1) hz
      cases this
  | succ k ih =>
    intro c a R ρ hk ha h1 h2 h3 h4 h5 h6
    have n12 := pl_12 (T := T) (e := min n 19) (a := a)
    have pre : ev (d + 6) 35 24 [(0, .ref 50), (1, .int (nI c)), (2, .int 1)] [] (mkH ρ) = ev (d + 6) 35 58 [(0, .ref 50), (1, .int (nI c)), (2, .int 1)] [.int (nI c), .ref 50] (mkH ρ) := by
      rw [g_Model_barges_24, if_neg (by decide), c_Model_barges_29 (N_fine1 (d := d + 4) h2), g_Model_barges_32, if_neg (by decide), h3.1, nI_add, if_neg (show ¬ nI (wb W + c) = (4 : Int32) from nI_ne (a := wb W + c) (b := 4) (by omega) (by decide) (by omega))]
    obtain ⟨m1', m2'⟩ := M_line (d := d + 1) (c := c) (r := R.1) h1 h2 hW h3 h4 h5 (fun i hi => (h6 i hi).1) (by omega) (by omega)
    rw [pre]
    cases hp : bfF T (min n 19) W R.1 (wb W + c) a with
    | some q =>
      rw [bm_some hp]
      refine ⟨fun q' z S hq => ?_, fun q' z S hz => ?_⟩
      · have : q = q' := congrArg (fun p => p.2.1) hq
        subst this
        obtain ⟨τ, e1, e2, e3, b, e4⟩ := m1' q hp
        rw [c_Model_barges_58 e1, g_Model_barges_61]
        have := bf_q hp
        exact bad (by omega) e4 e3 e2
      · have : false = true := congrArg (fun p => p.1) hz
        cases this
    | none =>
      obtain ⟨τ, e1, e2, e4, e5⟩ := m2' hp
      have w2 : sI τ 3215 = -1 := (e2.1 3215 rfl).trans h2
      have aτ : Ag kTm ρ τ := e2.wk rfl
      have m2 := h3.ag e2 rfl
      have f2 : Lv W (sA τ 51) f := by rw [e2.2.1 51 rfl]; exact h4
      have r2 : ∀ i, i < wb W → (bnR T (min n 19) (wb W + c) a R).1 i = f i := fun i hi => (show upd R.1 (wb W + c) _ i = f i by rw [upN (by omega)]; exact h5 i hi)
      have l5 : LbM τ (bnR T (min n 19) (wb W + c) a R) (wb W) (c + 1) := fun j hj => by
        rw [e5]
        show _ = upd R.1 (wb W + c) _ (wb W + j) ∧ _ = upd R.2.1 (wb W + c) _ (wb W + j) ∧ _ = upd R.2.2 (wb W + c) _ (wb W + j)
        by_cases z : j = c
        · subst z
          rw [upS, upS, upS]
          refine ⟨?_, ?_, ?_⟩
          · rw [upN (by omega), upN (by omega), upS]
          · rw [upN (by omega), upS]
          · rw [upS]
        · obtain ⟨q1, q2, q3⟩ := h6 j (by omega)
          rw [upN (show wb W + j ≠ wb W + c by omega), upN (show wb W + j ≠ wb W + c by omega), upN (show wb W + j ≠ wb W + c by omega)]
          refine ⟨?_, ?_, ?_⟩
          · rw [upN (by omega), upN (by omega), upN (by omega)]; exact q1
          · rw [upN (by omega), upN (by omega), upN (by omega)]; exact q2
          · rw [upN (by omega), upN (by omega), upN (by omega)]; exact q3
      have hps := N_passes1 (d := d + 3) (x := 59) e4 w2
      rw [bm_none hp, c_Model_barges_58 e1, g_Model_barges_61, nI_1]
      by_cases z : heF T (min n 19) (a + plN T (min n 19) a + 2) = 59
      · rw [if_pos z] at hps ⊢
        have a1 : Ag [3214] τ (uI τ 3214 (nI (a + plN T (min n 19) a + 2 + 1))) := Ag.I Ag.rf rfl
        have nxt := ih (c + 1) (a + plN T (min n 19) a + 3) (bnR T (min n 19) (wb W + c) a R) (uI τ 3214 (nI (a + plN T (min n 19) a + 2 + 1))) (by omega) (by omega) (e4.nx (by omega) rfl) w2 (m2.ag a1 rfl) f2 r2 l5
        have a2 : Ag kTm ρ (uI τ 3214 (nI (a + plN T (min n 19) a + 2 + 1))) := aτ.tr (a1.wk rfl)
        rw [c_Model_barges_67 hps, g_Model_barges_70]
        refine ⟨fun q z S hq => (nxt.1 q z S hq).im (fun τ y ⟨k1, k2⟩ => ⟨a2.tr k1, k2⟩), fun q z S hw => ⟨fun l => ((nxt.2 q z S hw).1 l).im (fun τ y ⟨k1, k2⟩ => ⟨a2.tr k1, k2⟩), fun l => ?_⟩⟩
        obtain ⟨τ', k1, k2, k3⟩ := (nxt.2 q z S hw).2 l
        exact ⟨τ', a2.tr k1, k2, k3⟩
      · rw [if_neg z] at hps ⊢
        rw [c_Model_barges_67 hps, g_Model_barges_70, g_Model_barges_24, if_pos rfl]
        refine ⟨fun q z S hq => ?_, fun q z S hw => ?_⟩
        · have : true = false := congrArg (fun p => p.1) hq
          cases this
        · have t1 : a + plN T (min n 19) a + 2 = q := congrArg (fun p => p.2.1) hw
          have t2 : wb W + c + 1 = z := congrArg (fun p => p.2.2.1) hw
          have t3 : bnR T (min n 19) (wb W + c) a R = S := congrArg (fun p => p.2.2.2) hw
          subst t1 t2 t3
          rw [show wb W + c + 1 - wb W = c + 1 by omega]
          refine ⟨fun l => ?_, fun l => ⟨τ, aτ, l5, ?_⟩⟩
          · rw [c_Model_barges_75 (N_right2 (d := d + 2) e4 w2 l), g_Model_barges_78, if_pos rfl, m1]
            exact RnI.mk ⟨aτ.tr (Ag.I Ag.rf rfl), by rw [I_S]⟩
          · rw [c_Model_barges_75 (N_right1 (d := d + 2) e4 w2 l), g_Model_barges_78, if_neg (by decide)]
end BL
