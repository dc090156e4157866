/-! passengers: the lines -/
def pmS (T : Nat → Int32) (e B : Nat) : Nat → Nat → Bool × Nat
  | 0, c => (false, 4 * c)
  | k + 1, c => match pfF T e B (4 * c) with
    | some q => (false, q)
    | none => if heF T e (4 * c + 3) = 59 then pmS T e B k (c + 1) else (true, c + 1)
theorem pm_some {T : Nat → Int32} {e B k c q : Nat} (h : pfF T e B (4 * c) = some q) : pmS T e B (k + 1) c = (false, q) := by
  unfold pmS; rw [h]
theorem pm_none {T : Nat → Int32} {e B k c : Nat} (h : pfF T e B (4 * c) = none) : pmS T e B (k + 1) c = if heF T e (4 * c + 3) = 59 then pmS T e B k (c + 1) else (true, c + 1) := by
  rw [pmS]; rw [h]
theorem pm_ok {T : Nat → Int32} {e B z : Nat} : ∀ k c, pmS T e B k c = (true, z) → c < z ∧ z ≤ c + k ∧ ∀ j, c ≤ j → j < z → pfF T e B (4 * j) = none
  | 0, c, h => by
    have h : (false, 4 * c) = (true, z) := h
    cases h
  | k + 1, c, h => by
    cases hp : pfF T e B (4 * c) with
    | some q => rw [pm_some hp] at h; cases h
    | none =>
      rw [pm_none hp] at h
      by_cases z1 : heF T e (4 * c + 3) = 59
      · rw [if_pos z1] at h
        obtain ⟨q1, q2, q3⟩ := pm_ok k (c + 1) h
        refine ⟨by omega, by omega, fun j h1 h2 => ?_⟩
        by_cases e1 : j = c
        · rw [e1]; exact hp
        · exact q3 j (by omega) h2
      · rw [if_neg z1] at h
        have : c + 1 = z := congrArg Prod.snd h
        subst this
        refine ⟨by omega, by omega, fun j h1 h2 => ?_⟩
        rw [show j = c by omega]; exact hp
theorem he_lt {T : Nat → Int32} {e a j : Nat} (h : heF T e a = nI j) (hj : j < 128) : a < e := Decidable.byContradiction (fun z => by
  unfold heF at h
  rw [if_neg z] at h
  exact nI_nm1 (by omega) h.symm)
theorem pf_none {T : Nat → Int32} {e B a : Nat} (h : pfF T e B a = none) : ¬ inF (heF T e a) 49 57 = 0 ∧ ¬ inF (heF T e (a + 1)) 48 (48 + nI B - 1) = 0 ∧ (heF T e (a + 2) = 97 ∨ heF T e (a + 2) = 115) := by
  unfold pfF at h
  by_cases c0 : inF (heF T e a) 49 57 = 0
  · rw [if_pos c0] at h; cases h
  · rw [if_neg c0] at h
    by_cases c1 : inF (heF T e (a + 1)) 48 (48 + nI B - 1) = 0
    · rw [if_pos c1] at h; cases h
    · rw [if_neg c1] at h
      by_cases c2 : heF T e (a + 2) = 97 ∨ heF T e (a + 2) = 115
      · exact ⟨c0, c1, c2⟩
      · rw [if_neg c2] at h; cases h
theorem pf_lt {T : Nat → Int32} {e B a : Nat} (h : pfF T e B a = none) : a + 2 < e := by
  rcases (pf_none h).2.2 with z | z
  · exact he_lt (j := 97) z (by decide)
  · exact he_lt (j := 115) z (by decide)
def LnC (σ ρ : Sg) (T : Nat → Int32) (e P c : Nat) : Prop := ∀ j, j < c → sA ρ 18 (P + j) = heF T e (4 * j) - 48 ∧ sA ρ 19 (P + j) = heF T e (4 * j + 1) - 48 ∧ sA ρ 20 (P + j) = (if heF T e (4 * j + 2) = 97 then 1 else 0) ∧ sA ρ 21 (P + j) = heF T e (4 * j) - 48
def OlC (σ ρ : Sg) (P : Nat) : Prop := ∀ i, i < P → sA ρ 18 i = sA σ 18 i ∧ sA ρ 19 i = sA σ 19 i ∧ sA ρ 20 i = sA σ 20 i ∧ sA ρ 21 i = sA σ 21 i
def kMn : List Nat := [66, 67, 10018, 10019, 10020, 10021]
section ML
variable {d n a c B P e : Nat} {σ τ ρ : Sg} {T : Nat → Int32} {K : List Nat} {x y : Int32}
theorem C_men (hB4 : B ≤ 4) (he : e ≤ 40) : ∀ (k c : Nat) (ρ : Sg), P + c + k = 9 → CT ρ T e (4 * c) → sI ρ 325 = nI B → sI ρ 334 = nI P → Ag kMn σ ρ → OlC σ ρ P → LnC σ ρ T e P c → RnI (ev (d + 3) 140 20 [(0, .ref 5), (1, .ref 1), (2, .int (nI (P + c)))] [] (mkH ρ)) (fun τ y => Ag kMn σ τ ∧ OlC σ τ P ∧ (∀ q, pmS T e B k c = (false, q) → y = -1 ∧ sI τ 66 = nI q) ∧ (∀ z, pmS T e B k c = (true, z) → y = nI z ∧ sI τ 66 = nI (4 * z - 1) ∧ LnC σ τ T e P z)) := by
  intro k
  induction k with
  | zero =>
    intro c ρ hk h1 h2 h3 h4 h5 h6
    rw [g_Fleet_draftPassengers_20, if_pos (show (9 : Int32) ≤ nI (P + c) from nI_le (a := 9) (b := P + c) (by omega) (by omega)), m1]
    refine RnI.mk ⟨h4, h5, fun q hq => ⟨rfl, ?_⟩, fun z hz => ?_⟩
    · have : 4 * c = q := congrArg Prod.snd hq
      rw [← this]; exact h1.1
    · have hz : (false, 4 * c) = (true, z) := hz
      cases hz
  | succ k ih =>
    intro c ρ hk h1 h2 h3 h4 h5 h6
    obtain ⟨m1', m2'⟩ := C_man (d := d) (p := P + c) h1 h2 hB4 (by omega) (by omega)
    rw [g_Fleet_draftPassengers_20, if_neg (show ¬ (9 : Int32) ≤ nI (P + c) from nI_ge (a := P + c) (b := 9) (by omega) (by decide))]
    cases hp : pfF T e B (4 * c) with
    | some q =>
      obtain ⟨τ, y, e1, e2, rfl, e4⟩ := m1' q hp
      rw [c_Fleet_draftPassengers_29 e1, g_Fleet_draftPassengers_32, if_pos rfl, m1, pm_some hp]
      refine RnI.mk ⟨h4.tr (e2.wk rfl), fun i hi => ?_, fun q' hq => ⟨rfl, ?_⟩, fun z hz => by cases hz⟩
      · rw [e2.2.1 18 rfl, e2.2.1 19 rfl, e2.2.1 20 rfl, e2.2.1 21 rfl]; exact h5 i hi
      · have : q = q' := congrArg Prod.snd hq
        rw [← this]; exact e4.1
    | none =>
      obtain ⟨τ, y, e1, e2, rfl, e4, e5, e6, e7, e8⟩ := m2' hp
      have hl := C_look (d := d + 1) e4
      have o5 : OlC σ τ P := fun i hi => by
        rw [e5, e6, e7, e8, upN (by omega), upN (by omega), upN (by omega), upN (by omega)]; exact h5 i hi
      have o6 : LnC σ τ T e P (c + 1) := fun j hj => by
        rw [e5, e6, e7, e8]
        by_cases z : j = c
        · subst z; rw [upS, upS, upS, upS]; exact ⟨rfl, rfl, rfl, rfl⟩
        · rw [upN (by omega), upN (by omega), upN (by omega), upN (by omega)]; exact h6 j (by omega)
      have o4 : Ag kMn σ τ := h4.tr (e2.wk rfl)
      rw [c_Fleet_draftPassengers_29 e1, g_Fleet_draftPassengers_32, if_neg (by decide), c_Fleet_draftPassengers_38 hl, g_Fleet_draftPassengers_41, pm_none hp]
      by_cases z : heF T e (4 * c + 3) = 59
      · rw [if_pos z, if_pos z, e4.1, nI_1, nI_1]
        have a1 : Ag [66] τ (uI τ 66 (nI (4 * c + 3 + 1))) := Ag.I Ag.rf rfl
        exact ih (c + 1) (uI τ 66 (nI (4 * c + 3 + 1))) (by omega) (e4.nx (b := 4 * (c + 1)) (by omega) (by rw [show 4 * c + 3 + 1 = 4 * (c + 1) by omega])) ((e2.1 325 rfl).trans h2) ((e2.1 334 rfl).trans h3) (o4.tr (a1.wk rfl)) o5 o6
      · rw [if_neg z, if_neg z, (e2.1 334 rfl).trans h3, nI_1, show nI (P + c + 1) - nI P = nI (c + 1) from (nI_sub (by omega)).trans (by rw [show P + c + 1 - P = c + 1 by omega])]
        refine RnI.mk ⟨o4, o5, fun q hq => (by cases hq), fun w hw => ?_⟩
        have hw : c + 1 = w := congrArg Prod.snd hw
        subst hw
        exact ⟨rfl, by rw [e4.1, show 4 * (c + 1) - 1 = 4 * c + 3 by omega], o6⟩
def LnM (ρ : Sg) (T : Nat → Int32) (e c : Nat) : Prop := ∀ j, j < c → sA ρ 56 (3 * j) = heF T e (4 * j) - 48 ∧ sA ρ 56 (3 * j + 1) = heF T e (4 * j + 1) - 48 ∧ sA ρ 56 (3 * j + 2) = (if heF T e (4 * j + 2) = 97 then 1 else 0)
theorem M_men (hB4 : B ≤ 4) : ∀ (k c : Nat) (ρ : Sg), P + c + k = 9 → RD ρ T n 35 (4 * c) → sI ρ 3215 = -1 → sI ρ 3202 = nI B → sI ρ 3203 = nI P → LnM ρ T (min n 35) c →
    (∀ q, pmS T (min n 35) B k c = (false, q) → RnI (ev (d + 6) 37 24 [(0, .ref 50), (1, .int (nI c)), (2, .int 1)] [] (mkH ρ)) (fun τ y => Ag kTm ρ τ ∧ y = -1 - nI q)) ∧
    (∀ z, pmS T (min n 35) B k c = (true, z) → (4 * z - 1 < n → RnI (ev (d + 6) 37 24 [(0, .ref 50), (1, .int (nI c)), (2, .int 1)] [] (mkH ρ)) (fun τ y => Ag kTm ρ τ ∧ y = -1 - nI (4 * z - 1))) ∧
      (n ≤ 4 * z - 1 → ∃ τ, Ag kTm ρ τ ∧ LnM τ T (min n 35) z ∧ ev (d + 6) 37 24 [(0, .ref 50), (1, .int (nI c)), (2, .int 1)] [] (mkH ρ) = ev (d + 6) 37 93 [(0, .ref 50), (1, .int (nI z)), (2, .int 0), (3, .int 0)] [] (mkH τ))) := by
  have bad : ∀ {q b : Nat} {s : Sg} {x x2 : Int32}, q ≤ 100 → RD s T n 35 b → sI s 3215 = nI q → ∀ {ρ : Sg}, Ag kTm ρ s → RnI (ev (d + 6) 37 70 [(0, .ref 50), (1, .int x), (2, .int x2)] [.int 59, .ref 50] (mkH s)) (fun τ y => Ag kTm ρ τ ∧ y = -1 - nI q) := fun {q b s x x2} hq h hw {ρ} g => by
    have nw : ¬ sI s 3215 = -1 := by rw [hw]; exact nI_nm1 (by omega)
    rw [c_Model_passengers_70 (N_passes0 (d := d + 3) nw), g_Model_passengers_73, g_Model_passengers_24, if_pos rfl, c_Model_passengers_78 (N_right0 (d := d + 2) h nw), g_Model_passengers_81, if_pos rfl, m1, hw]
    exact RnI.mk ⟨g, rfl⟩
  intro k
  induction k with
  | zero =>
    intro c ρ hk h1 h2 h3 h4 h5
    refine ⟨fun q hq => ?_, fun z hz => ?_⟩
    · have : 4 * c = q := congrArg Prod.snd hq
      subst this
      have a1 : Ag [3215] ρ (uI ρ 3215 (nI (4 * c))) := Ag.I Ag.rf rfl
      rw [g_Model_passengers_24, if_neg (by decide), c_Model_passengers_29 (N_fine1 (d := d + 4) h2), g_Model_passengers_32, if_neg (by decide), h4, nI_add, if_pos (show nI (P + c) = (9 : Int32) by rw [show P + c = 9 by omega]; rfl), h1.2.2.1, c_Model_passengers_51 (N_fault1 (d := d + 3) h2), g_Model_passengers_54]
      exact bad (by omega) (h1.ag a1 rfl) I_S (a1.wk rfl)
    · have hz : (false, 4 * c) = (true, z) := hz
      cases hz
  | succ k ih =>
    intro c ρ hk h1 h2 h3 h4 h5
    have pre : ev (d + 6) 37 24 [(0, .ref 50), (1, .int (nI c)), (2, .int 1)] [] (mkH ρ) = ev (d + 6) 37 61 [(0, .ref 50), (1, .int (nI c)), (2, .int 1)] [.int (nI (3 * c)), .ref 50] (mkH ρ) := by
      rw [g_Model_passengers_24, if_neg (by decide), c_Model_passengers_29 (N_fine1 (d := d + 4) h2), g_Model_passengers_32, if_neg (by decide), h4, nI_add, if_neg (show ¬ nI (P + c) = (9 : Int32) from nI_ne (a := P + c) (b := 9) (by omega) (by decide) (by omega)), show (3 : Int32) * nI c = nI (3 * c) from (Int32.ofNat_mul 3 c).symm]
    obtain ⟨m1', m2'⟩ := M_man (d := d + 1) (c := 3 * c) h1 h2 h3 hB4 (by omega) (by omega)
    rw [pre]
    cases hp : pfF T (min n 35) B (4 * c) with
    | some q =>
      rw [pm_some hp]
      refine ⟨fun q' hq => ?_, fun z hz => by cases hz⟩
      have : q = q' := congrArg Prod.snd hq
      subst this
      obtain ⟨τ, e1, e2, e3, b, e4⟩ := m1' q hp
      rw [c_Model_passengers_61 e1, g_Model_passengers_64]
      exact bad (by
        unfold pfF at hp
        split at hp
        · have := Option.some.inj hp; omega
        · split at hp
          · have := Option.some.inj hp; omega
          · split at hp
            · cases hp
            · have := Option.some.inj hp; omega) e4 e3 e2
    | none =>
      obtain ⟨τ, e1, e2, e4, e5⟩ := m2' hp
      have w2 : sI τ 3215 = -1 := (e2.1 3215 rfl).trans h2
      have aτ : Ag kTm ρ τ := e2.wk rfl
      have l5 : LnM τ T (min n 35) (c + 1) := fun j hj => by
        rw [e5]
        by_cases z : j = c
        · subst z
          refine ⟨?_, ?_, ?_⟩
          · rw [upN (by omega), upN (by omega), upS]
          · rw [upN (by omega), upS]
          · rw [upS]
        · obtain ⟨q1, q2, q3⟩ := h5 j (by omega)
          refine ⟨?_, ?_, ?_⟩
          · rw [upN (by omega), upN (by omega), upN (by omega)]; exact q1
          · rw [upN (by omega), upN (by omega), upN (by omega)]; exact q2
          · rw [upN (by omega), upN (by omega), upN (by omega)]; exact q3
      have hps := N_passes1 (d := d + 3) (x := 59) e4 w2
      rw [pm_none hp, c_Model_passengers_61 e1, g_Model_passengers_64, nI_1]
      by_cases z : heF T (min n 35) (4 * c + 3) = 59
      · rw [if_pos z] at hps ⊢
        have a1 : Ag [3214] τ (uI τ 3214 (nI (4 * c + 3 + 1))) := Ag.I Ag.rf rfl
        have nxt := ih (c + 1) (uI τ 3214 (nI (4 * c + 3 + 1))) (by omega) (e4.nx (b := 4 * (c + 1)) (by omega) (by rw [show 4 * c + 3 + 1 = 4 * (c + 1) by omega])) w2 ((e2.1 3202 rfl).trans h3) ((e2.1 3203 rfl).trans h4) l5
        have a2 : Ag kTm ρ (uI τ 3214 (nI (4 * c + 3 + 1))) := aτ.tr (a1.wk rfl)
        rw [c_Model_passengers_70 hps, g_Model_passengers_73]
        refine ⟨fun q hq => (nxt.1 q hq).im (fun τ y ⟨k1, k2⟩ => ⟨a2.tr k1, k2⟩), fun w hw => ⟨fun l => ((nxt.2 w hw).1 l).im (fun τ y ⟨k1, k2⟩ => ⟨a2.tr k1, k2⟩), fun l => ?_⟩⟩
        obtain ⟨τ', k1, k2, k3⟩ := (nxt.2 w hw).2 l
        exact ⟨τ', a2.tr k1, k2, k3⟩
      · rw [if_neg z] at hps ⊢
        rw [c_Model_passengers_70 hps, g_Model_passengers_73, g_Model_passengers_24, if_pos rfl]
        refine ⟨fun q hq => (by cases hq), fun w hw => ?_⟩
        have hw : c + 1 = w := congrArg Prod.snd hw
        subst hw
        rw [show 4 * (c + 1) - 1 = 4 * c + 3 by omega]
        refine ⟨fun l => ?_, fun l => ⟨τ, aτ, l5, ?_⟩⟩
        · rw [c_Model_passengers_78 (N_right2 (d := d + 2) e4 w2 l), g_Model_passengers_81, if_pos rfl, m1]
          exact RnI.mk ⟨aτ.tr (Ag.I Ag.rf rfl), by rw [I_S]⟩
        · rw [c_Model_passengers_78 (N_right1 (d := d + 2) e4 w2 l), g_Model_passengers_81, if_neg (by decide)]
end ML
