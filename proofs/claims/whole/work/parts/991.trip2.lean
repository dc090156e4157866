/-! journey: the texts, the acts, the call -/
section T2
variable {d m x k : Nat} {σ τ : Sg} {W : Wd} {f g : Nat → Int32} {gs : Nat → Nat → Int32} {K : List Nat}
theorem N_remTa {n : Nat} (hW : WO W) (hl : Lv W (sA σ 61) f) (hn : n ≤ 11) (h1 : sI σ 3223 = nI n) (h2 : ∀ j, j < n → Lv W (fun i => sA σ 60 (44 * (n - 1 - j) + i)) (gs j)) : RnV (ev (d + 2) 56 61 [(0, .ref 50), (1, .ref 61)] [.int (nI (44 * n)), .ref 60, .ref 61] (mkH σ)) (fun τ => Ag [10060, 3223] σ τ ∧ PaM W (n + 1) (pushG f gs) τ) := by
  obtain ⟨τ, k1, k2, k3, k4⟩ := N_lay_au (d := d) (σ := σ) (o := 44 * n) (by omega)
  rw [c_Model_remember_a_61 k1, g_Model_remember_a_64]
  refine RnV.mk ⟨(k2.wk rfl).tr (Ag.I Ag.rf rfl), by omega, ?_, fun j hj => ?_⟩
  · show sI τ 3223 + 1 = _
    rw [k2.1 3223 rfl, h1, nI_1]
  · show Lv W (fun i => sA τ 60 (44 * (n + 1 - 1 - j) + i)) (pushG f gs j)
    cases j with
    | zero =>
      exact Lv.of44 hW (fun i hi => by show sA τ 60 (44 * (n + 1 - 1 - 0) + i) = _; rw [show n + 1 - 1 - 0 = n by omega]; exact k3 i hi) hl
    | succ j =>
      exact Lv.of44 hW (fun i hi => by show sA τ 60 (44 * (n + 1 - 1 - (j + 1)) + i) = _; rw [show n + 1 - 1 - (j + 1) = n - 1 - j by omega]; exact k4 _ (by omega)) (h2 j (by omega))
theorem N_rememberA (hW : WO W) (hl0 : Lv W (sA σ 61) f) (hp : PaM W m gs σ) : RnV (ev (d + 2) 56 0 [(0, .ref 50), (1, .ref 61)] [] (mkH σ)) (fun τ => Ag [10060, 3223] σ τ ∧ PaM W (min (m + 1) 12) (pushG f gs) τ) := by
  obtain ⟨p1, p2, p3⟩ := hp
  rw [g_Model_remember_a_0, p2]
  rcases Nat.lt_or_ge m 12 with z | z
  · rw [if_neg (fun e => absurd (show nI m < (12 : Int32) from nI_lt (a := m) (b := 12) z (by decide)) (by rw [e]; decide)), mul44', Nat.min_eq_left (by omega)]
    exact N_remTa hW hl0 (by omega) p2 p3
  · have : m = 12 := by omega
    subst this
    rw [if_pos (show nI 12 = (12 : Int32) from rfl), Nat.min_eq_right (by omega)]
    refine lpG (α := Sg) (n := 484) (P := fun k ρ => Ag [10060, 3223] σ ρ ∧ sI ρ 3223 = nI 12 ∧ (∀ i, i < k → sA ρ 60 i = sA σ 60 (i + 44)) ∧ ∀ i, k ≤ i → sA ρ 60 i = sA σ 60 i)
      (f := fun k ρ => ev (d + 2) 56 11 [(0, .ref 50), (1, .ref 61), (2, .int (nI k))] [] (mkH ρ)) (Q := fun o => RnV o _) ?_ ?_ 484 0 σ (by omega) ⟨Ag.rf, p2, fun i hi => absurd hi (Nat.not_lt_zero i), fun i hi => rfl⟩
    · rintro i ρ hi ⟨q1, q2, q3, q4⟩ nx
      show RnV (ev (d + 2) 56 11 [(0, .ref 50), (1, .ref 61), (2, .int (nI i))] [] (mkH ρ)) _
      rw [g_Model_remember_a_11, if_neg (show ¬ (484 : Int32) ≤ nI i from nI_ge (a := i) (b := 484) hi (by decide)), show nI i + (44 : Int32) = nI (i + 44) from nI_add i 44, ixn (k := i + 44) (by omega) (by decide), cond_true, ixn (k := i) (by omega) (by decide), cond_true, cln (n := i) (by omega), cln (n := i + 44) (by omega), nI_1, q4 (i + 44) (by omega)]
      refine nx _ ⟨Ag.A q1 rfl, q2, fun c hc => ?_, fun c hc => ?_⟩
      · show upd (sA ρ 60) i _ c = _
        by_cases e : c = i
        · subst e; rw [upS]
        · rw [upN e]; exact q3 c (by omega)
      · show upd (sA ρ 60) i _ c = _
        rw [upN (by omega)]; exact q4 c (by omega)
    · rintro ρ ⟨q1, q2, q3, q4⟩
      show RnV (ev (d + 2) 56 11 [(0, .ref 50), (1, .ref 61), (2, .int (nI 484))] [] (mkH ρ)) _
      rw [g_Model_remember_a_11, if_pos (by decide), q2, show nI 12 - (1 : Int32) = nI 11 from by decide, mul44']
      have hl : Lv W (sA (uI ρ 3223 (nI 11)) 61) f := by
        show Lv W (sA ρ 61) f
        rw [q1.2.1 61 rfl]; exact hl0
      refine (N_remTa (gs := gs) hW hl (by omega) I_S (fun j hj => ?_)).im (fun τ ⟨k1, k2⟩ => ⟨(q1.tr (Ag.I Ag.rf rfl)).tr k1, k2⟩)
      refine Lv.of44 hW (fun i hi => ?_) (p3 j (by omega))
      show sA ρ 60 (44 * (11 - 1 - j) + i) = sA σ 60 (44 * (12 - 1 - j) + i)
      rw [q3 _ (by omega), show 44 * (11 - 1 - j) + i + 44 = 44 * (12 - 1 - j) + i by omega]
end T2
def jrS (T : Nat → Int32) (e : Nat) : Nat → Nat → Option Nat × Nat
  | 0, _ => (none, 0)
  | k + 1, a => if e ≤ a then (none, 0) else match arF T e a with
    | some q => (some q, 0)
    | none => ((jrS T e k (a + lnF T e a)).1, (jrS T e k (a + lnF T e a)).2 + 1)
def Jr (T : Nat → Int32) (e : Nat) : Nat → Nat → Prop
  | 0, a => a = e
  | m + 1, a => arF T e a = none ∧ Jr T e m (a + lnF T e a)
def acA (T : Nat → Int32) (e : Nat) (W : Wd) (a : Nat) (f : Nat → Int32) : Bool × (Nat → Int32) := actF W f (heF T e a) (heF T e (a + 1) - 48) (heF T e (a + 2) - 48)
def jdF (T : Nat → Int32) (e : Nat) (W : Wd) : Nat → Nat → (Nat → Int32) → Nat × Bool × (Nat → Int32)
  | 0, _, f => (0, false, f)
  | m + 1, a, f => bif (acA T e W a f).1 then ((jdF T e W m (a + lnF T e a) (acA T e W a f).2).1 + 1, (jdF T e W m (a + lnF T e a) (acA T e W a f).2).2) else (0, true, (acA T e W a f).2)
def LjM (T : Nat → Int32) (e : Nat) (τ : Sg) : Nat → Nat → Nat → Prop
  | 0, _, _ => True
  | m + 1, a, c => (sA τ 66 (3 * c) = heF T e a ∧ sA τ 66 (3 * c + 1) = heF T e (a + 1) - 48 ∧ (heF T e a = 99 ∨ heF T e a = 108 → sA τ 66 (3 * c + 2) = heF T e (a + 2) - 48)) ∧ LjM T e τ m (a + lnF T e a) (c + 1)
section T3
variable {d n m a c e k : Nat} {σ τ ρ : Sg} {T : Nat → Int32} {W : Wd} {f g : Nat → Int32} {x y : Int32}
theorem pr_x {p : Option Nat × Nat} {o : Option Nat} (h : p.1 = o) : p = (o, p.2) := by
  subst h; rfl
theorem jr_ge (h : e ≤ a) : jrS T e k a = (none, 0) := by
  cases k with
  | zero => rfl
  | succ k => unfold jrS; rw [if_pos h]
theorem jr_some {q : Nat} (h : ¬ e ≤ a) (h2 : arF T e a = some q) : jrS T e (k + 1) a = (some q, 0) := by
  rw [jrS, if_neg h, h2]
theorem jr_none (h : ¬ e ≤ a) (h2 : arF T e a = none) : jrS T e (k + 1) a = ((jrS T e k (a + lnF T e a)).1, (jrS T e k (a + lnF T e a)).2 + 1) := by
  rw [jrS, if_neg h, h2]
theorem jr_ok : ∀ k a m, jrS T e k a = (none, m) → e ≤ a + k → a ≤ e → Jr T e m a
  | 0, a, m, h, h1, h2 => by
    have : 0 = m := congrArg Prod.snd h
    subst this
    show a = e
    omega
  | k + 1, a, m, h, h1, h2 => by
    by_cases h3 : e ≤ a
    · rw [jr_ge h3] at h
      have : 0 = m := congrArg Prod.snd h
      subst this
      show a = e
      omega
    · cases hp : arF T e a with
      | some q =>
        rw [jr_some h3 hp] at h
        have : some q = none := congrArg Prod.fst h
        cases this
      | none =>
        rw [jr_none h3 hp] at h
        have l := ar_lt hp
        have l2 := ln_23 (T := T) (e := e) (a := a)
        have e1 : (jrS T e k (a + lnF T e a)).1 = none := congrArg Prod.fst h
        have e2 : (jrS T e k (a + lnF T e a)).2 + 1 = m := congrArg Prod.snd h
        subst e2
        exact ⟨hp, jr_ok k _ _ (pr_x e1) (by omega) (by omega)⟩
theorem jr_bad {q : Nat} : ∀ k a m, jrS T e k a = (some q, m) → q ≤ e + 2
  | 0, a, m, h => by
    have : none = some q := congrArg Prod.fst h
    cases this
  | k + 1, a, m, h => by
    by_cases h3 : e ≤ a
    · rw [jr_ge h3] at h
      have : none = some q := congrArg Prod.fst h
      cases this
    · cases hp : arF T e a with
      | some q' =>
        rw [jr_some h3 hp] at h
        have : some q' = some q := congrArg Prod.fst h
        have := Option.some.inj this
        have := ar_q hp
        omega
      | none =>
        rw [jr_none h3 hp] at h
        have e1 : (jrS T e k (a + lnF T e a)).1 = some q := congrArg Prod.fst h
        exact jr_bad k _ _ (pr_x e1)
theorem Jr.le : ∀ m a, Jr T e m a → 2 * m + a ≤ e
  | 0, a, h => by
    have h : a = e := h
    omega
  | m + 1, a, h => by
    have := Jr.le m _ h.2
    have := ln_23 (T := T) (e := e) (a := a)
    omega
theorem jd_t (h : (acA T e W a f).1 = true) : jdF T e W (m + 1) a f = ((jdF T e W m (a + lnF T e a) (acA T e W a f).2).1 + 1, (jdF T e W m (a + lnF T e a) (acA T e W a f).2).2) := by
  rw [jdF, h, cond_true]
theorem jd_f (h : (acA T e W a f).1 = false) : jdF T e W (m + 1) a f = (0, true, (acA T e W a f).2) := by
  rw [jdF, h, cond_false]
theorem jd_fl : ∀ m a f, (jdF T e W m a f).1 ≤ m ∧ (jdF T e W m a f).2.1 = decide ((jdF T e W m a f).1 < m)
  | 0, a, f => ⟨Nat.le_refl _, rfl⟩
  | m + 1, a, f => by
    cases h : (acA T e W a f).1 with
    | true =>
      rw [jd_t h]
      obtain ⟨h1, h2⟩ := jd_fl m (a + lnF T e a) (acA T e W a f).2
      refine ⟨Nat.succ_le_succ h1, h2.trans ?_⟩
      exact decide_eq_decide.mpr ⟨fun q => Nat.succ_lt_succ q, fun q => Nat.lt_of_succ_lt_succ q⟩
    | false =>
      rw [jd_f h]
      exact ⟨Nat.zero_le _, (decide_eq_true (Nat.succ_pos m)).symm⟩
theorem LjM.ag {K : List Nat} (g : Ag K σ τ) (hk : dj K [10066] = true) : ∀ m a c, LjM T e σ m a c → LjM T e τ m a c
  | 0, _, _, _ => trivial
  | m + 1, a, c, h => by
    have e1 := g.2.1 66 (dj_m hk (by decide))
    refine ⟨?_, LjM.ag g hk m _ _ h.2⟩
    rw [e1]; exact h.1
/-- how many digits stand behind a sign -/
theorem C_behind : ev (d + 1) 209 0 [(0, .int x)] [] (mkH σ) = rI σ (if x = 99 ∨ x = 108 then 2 else if x = 104 ∨ x = 119 ∨ x = 116 then 1 else 0) := by
  rw [g_Script_digitsBehind_0]
  by_cases h1 : x = 99
  · subst h1; rw [w_Script_digitsBehind_1_99, g_Script_digitsBehind_54, if_pos (Or.inl rfl)]
  by_cases h2 : x = 108
  · subst h2; rw [w_Script_digitsBehind_1_108, g_Script_digitsBehind_54, if_pos (Or.inr rfl)]
  rw [if_neg (fun q => q.elim h1 h2)]
  by_cases h3 : x = 104
  · subst h3; rw [w_Script_digitsBehind_1_104, g_Script_digitsBehind_52, if_pos (Or.inl rfl)]
  by_cases h4 : x = 119
  · subst h4; rw [w_Script_digitsBehind_1_119, g_Script_digitsBehind_52, if_pos (Or.inr (Or.inl rfl))]
  by_cases h5 : x = 116
  · subst h5; rw [w_Script_digitsBehind_1_116, g_Script_digitsBehind_52, if_pos (Or.inr (Or.inr rfl))]
  rw [if_neg (fun q => q.elim h3 (fun q => q.elim h4 h5)), w_Script_digitsBehind_1_d h1 h3 h2 h5 h4, g_Script_digitsBehind_56]
theorem C_acts (he : e ≤ 60) (hn : n ≤ 80) : ∀ (k a : Nat) (ρ : Sg), e ≤ a + k → a ≤ e → CT ρ T e a → sI ρ 65 = nI n → RnI (ev (d + 2) 208 6 [(0, .ref 1)] [] (mkH ρ)) (fun τ y => Ag [66] ρ τ ∧ (∀ q m, jrS T e k a = (some q, m) → y = 0 ∧ sI τ 66 = nI q) ∧ (∀ m, jrS T e k a = (none, m) → sI τ 66 = nI e ∧ y = if e = n then 1 else 0)) := by
  have stop : ∀ (k a : Nat) (ρ : Sg), e ≤ a → a ≤ e → CT ρ T e a → sI ρ 65 = nI n → RnI (ev (d + 2) 208 6 [(0, .ref 1)] [] (mkH ρ)) (fun τ y => Ag [66] ρ τ ∧ (∀ q m, jrS T e k a = (some q, m) → y = 0 ∧ sI τ 66 = nI q) ∧ (∀ m, jrS T e k a = (none, m) → sI τ 66 = nI e ∧ y = if e = n then 1 else 0)) := fun k a ρ h1 h2 h3 h4 => by
    have ea : a = e := by omega
    subst ea
    have er : ev (d + 1) 207 0 [(0, .ref 1)] [] (mkH ρ) = rI ρ (if a = n then 1 else 0) := by
      rw [g_Script_isReadWhole_0, h3.1, h4]
      by_cases q : a = n
      · rw [if_pos q, if_pos (by rw [q])]
      · rw [if_neg q, if_neg (nI_ne (by omega) (by omega) q)]
    rw [g_Script_readActs_6, h3.1, h3.2.1, if_pos (nI_le h1 (by omega)), c_Script_readActs_72 er, g_Script_readActs_75, if_pos (by split; exact Or.inr rfl; exact Or.inl rfl)]
    refine RnI.mk ⟨Ag.rf, fun q m hq => ?_, fun m hm => ⟨h3.1, rfl⟩⟩
    rw [jr_ge h1] at hq
    have : none = some q := congrArg Prod.fst hq
    cases this
  intro k
  induction k with
  | zero => intro a ρ h1 h2 h3 h4; exact stop 0 a ρ (by omega) h2 h3 h4
  | succ k ih =>
    intro a ρ h1 h2 h3 h4
    by_cases h5 : e ≤ a
    · exact stop (k + 1) a ρ h5 h2 h3 h4
    · have hT : sA ρ 2 a = heF T e a := by unfold heF; rw [if_pos (by omega), h3.2.2.1]
      have t1 : CT (uI ρ 66 (nI (a + 1))) T e (a + 1) := h3.nx (by omega) rfl
      have a1 : Ag [66] ρ (uI ρ 66 (nI (a + 1))) := Ag.I Ag.rf rfl
      have s65 : sI (uI ρ 66 (nI (a + 1))) 65 = nI n := h4
      have d1 := C_dig (d := d) t1
      rw [g_Script_readActs_6, h3.1, h3.2.1, if_neg (nI_ge (by omega) (by omega)), ixn (k := a) (by omega) (by decide), cond_true, cln (n := a) (by omega), hT, c_Script_readActs_26 (C_behind (d := d)), g_Script_readActs_29, h3.1, nI_1]
      generalize uI ρ 66 (nI (a + 1)) = ρ1 at t1 a1 s65 d1
      have bad : ∀ {σ1 : Sg} {b : Nat} {q : Nat}, Ag [66] ρ σ1 → CT σ1 T e b → arF T e a = some b → RnI (rI σ1 0) (fun τ y => Ag [66] ρ τ ∧ (∀ q m, jrS T e (k + 1) a = (some q, m) → y = 0 ∧ sI τ 66 = nI q) ∧ (∀ m, jrS T e (k + 1) a = (none, m) → sI τ 66 = nI e ∧ y = if e = n then 1 else 0)) := fun {σ1} {b} {q} g1 g2 g3 => by
        rw [jr_some h5 g3]
        refine RnI.mk ⟨g1, fun q m hq => ⟨rfl, ?_⟩, fun m hm => ?_⟩
        · have : some b = some q := congrArg Prod.fst hq
          rw [← Option.some.inj this]; exact g2.1
        · have : some b = none := congrArg Prod.fst hm
          cases this
      have good : ∀ {σ1 : Sg}, arF T e a = none → Ag [66] ρ σ1 → CT σ1 T e (a + lnF T e a) → sI σ1 65 = nI n → RnI (ev (d + 2) 208 6 [(0, .ref 1)] [] (mkH σ1)) (fun τ y => Ag [66] ρ τ ∧ (∀ q m, jrS T e (k + 1) a = (some q, m) → y = 0 ∧ sI τ 66 = nI q) ∧ (∀ m, jrS T e (k + 1) a = (none, m) → sI τ 66 = nI e ∧ y = if e = n then 1 else 0)) := fun {σ1} g1 g2 g3 g4 => by
        have l := ar_lt g1
        have l2 := ln_23 (T := T) (e := e) (a := a)
        rw [jr_none h5 g1]
        refine (ih (a + lnF T e a) σ1 (by omega) l g3 g4).im (fun τ y ⟨q1, q2, q3⟩ => ⟨g2.tr q1, fun q m hq => ?_, fun m hm => ?_⟩)
        · have e1 : (jrS T e k (a + lnF T e a)).1 = some q := congrArg Prod.fst hq
          exact q2 q _ (pr_x e1)
        · have e1 : (jrS T e k (a + lnF T e a)).1 = none := congrArg Prod.fst hm
          exact q3 _ (pr_x e1)
      by_cases k0 : heF T e a = 104 ∨ heF T e a = 99 ∨ heF T e a = 119 ∨ heF T e a = 108 ∨ heF T e a = 116
      · by_cases k2 : heF T e a = 99 ∨ heF T e a = 108
        · rw [if_pos k2, if_neg (show ¬ (2 : Int32) = 0 by decide), g_Script_readActs_48, if_neg (show ¬ (2 : Int32) ≤ 0 by decide)]
          by_cases c1 : inF (heF T e (a + 1)) 48 57 = 0
          · rw [if_pos c1] at d1
            rw [c_Script_readActs_54 d1, g_Script_readActs_57, if_neg (show ¬ (0 : Int32) ≤ -1 by decide)]
            exact bad (q := 0) a1 t1 (by unfold arF; rw [if_pos k0, if_pos c1])
          · obtain ⟨j, j1, j2, j3⟩ := dg_n c1
            rw [if_neg c1, j2] at d1
            have t2 : CT (uI ρ1 66 (nI (a + 1 + 1))) T e (a + 2) := t1.nx (by omega) rfl
            have a2 : Ag [66] ρ (uI ρ1 66 (nI (a + 1 + 1))) := a1.tr (Ag.I Ag.rf rfl)
            have s2 : sI (uI ρ1 66 (nI (a + 1 + 1))) 65 = nI n := s65
            have d2 := C_dig (d := d) t2
            rw [c_Script_readActs_54 d1, g_Script_readActs_57, if_pos (show (0 : Int32) ≤ nI j from show nI 0 ≤ nI j from nI_le (Nat.zero_le _) (by omega)), g_Script_readActs_48, if_neg (show ¬ (2 : Int32) ≤ 0 + 1 by decide)]
            generalize uI ρ1 66 (nI (a + 1 + 1)) = ρ2 at t2 a2 s2 d2
            by_cases c2 : inF (heF T e (a + 2)) 48 57 = 0
            · rw [if_pos c2] at d2
              rw [c_Script_readActs_54 d2, g_Script_readActs_57, if_neg (show ¬ (0 : Int32) ≤ -1 by decide)]
              exact bad (q := 0) a2 t2 (by unfold arF; rw [if_pos k0, if_neg c1, if_pos k2, if_pos c2])
            · obtain ⟨i, i1, i2, i3⟩ := dg_n c2
              rw [if_neg c2, i2] at d2
              rw [c_Script_readActs_54 d2, g_Script_readActs_57, if_pos (show (0 : Int32) ≤ nI i from show nI 0 ≤ nI i from nI_le (Nat.zero_le _) (by omega)), g_Script_readActs_48, if_pos (show (2 : Int32) ≤ 0 + 1 + 1 by decide)]
              exact good (by unfold arF; rw [if_pos k0, if_neg c1, if_pos k2, if_neg c2]) (a2.tr (Ag.I Ag.rf rfl)) (by unfold lnF; rw [if_pos k2]; exact t2.nx (by omega) rfl) s2
        · have k3 : heF T e a = 104 ∨ heF T e a = 119 ∨ heF T e a = 116 := by
            rcases k0 with q | q | q | q | q
            · exact Or.inl q
            · exact absurd (Or.inl q) k2
            · exact Or.inr (Or.inl q)
            · exact absurd (Or.inr q) k2
            · exact Or.inr (Or.inr q)
          rw [if_neg k2, if_pos k3, if_neg (show ¬ (1 : Int32) = 0 by decide), g_Script_readActs_48, if_neg (show ¬ (1 : Int32) ≤ 0 by decide)]
          by_cases c1 : inF (heF T e (a + 1)) 48 57 = 0
          · rw [if_pos c1] at d1
            rw [c_Script_readActs_54 d1, g_Script_readActs_57, if_neg (show ¬ (0 : Int32) ≤ -1 by decide)]
            exact bad (q := 0) a1 t1 (by unfold arF; rw [if_pos k0, if_pos c1])
          · obtain ⟨j, j1, j2, j3⟩ := dg_n c1
            rw [if_neg c1, j2] at d1
            rw [c_Script_readActs_54 d1, g_Script_readActs_57, if_pos (show (0 : Int32) ≤ nI j from show nI 0 ≤ nI j from nI_le (Nat.zero_le _) (by omega)), g_Script_readActs_48, if_pos (show (1 : Int32) ≤ 0 + 1 by decide)]
            exact good (by unfold arF; rw [if_pos k0, if_neg c1, if_neg k2]) (a1.tr (Ag.I Ag.rf rfl)) (by unfold lnF; rw [if_neg k2]; exact t1.nx (by omega) rfl) s65
      · rw [if_neg (show ¬ (heF T e a = 99 ∨ heF T e a = 108) from fun q => k0 (q.elim (fun q => Or.inr (Or.inl q)) (fun q => Or.inr (Or.inr (Or.inr (Or.inl q)))))), if_neg (show ¬ (heF T e a = 104 ∨ heF T e a = 119 ∨ heF T e a = 116) from fun q => k0 (q.elim Or.inl (fun q => q.elim (fun q => Or.inr (Or.inr (Or.inl q))) (fun q => Or.inr (Or.inr (Or.inr (Or.inr q))))))), if_pos rfl]
        exact bad (q := 0) Ag.rf h3 (by unfold arF; rw [if_neg k0])
def kJr : List Nat := [3214, 3215, 10066]
theorem M_acts : ∀ (k a c : Nat) (ρ : Sg), min n 60 ≤ a + k → a ≤ min n 60 → 2 * c ≤ a → RD ρ T n 60 a → sI ρ 3215 = -1 →
    (∀ q m, jrS T (min n 60) k a = (some q, m) → RnI (ev (d + 6) 71 13 [(0, .ref 50), (1, .int (nI c))] [] (mkH ρ)) (fun τ y => Ag kJr ρ τ ∧ y = -1 - nI q)) ∧
    (∀ m, jrS T (min n 60) k a = (none, m) → (min n 60 < n → RnI (ev (d + 6) 71 13 [(0, .ref 50), (1, .int (nI c))] [] (mkH ρ)) (fun τ y => Ag kJr ρ τ ∧ y = -1 - nI (min n 60))) ∧
      (min n 60 = n → ∃ τ, Ag kJr ρ τ ∧ LjM T (min n 60) τ m a c ∧ (∀ i, i < 3 * c → sA τ 66 i = sA ρ 66 i) ∧ ev (d + 6) 71 13 [(0, .ref 50), (1, .int (nI c))] [] (mkH ρ) = ev (d + 6) 71 67 [(0, .ref 50), (1, .int (nI (c + m)))] [.int 0, .ref 61, .ref 51] (mkH τ))) := by
  have bad : ∀ {q b : Nat} {s : Sg} {x : Int32}, q ≤ 200 → RD s T n 60 b → sI s 3215 = nI q → ∀ {ρ : Sg}, Ag kJr ρ s → RnI (ev (d + 6) 71 13 [(0, .ref 50), (1, .int x)] [] (mkH s)) (fun τ y => Ag kJr ρ τ ∧ y = -1 - nI q) := fun {q b s x} hq h hw {ρ} g => by
    have nw : ¬ sI s 3215 = -1 := by rw [hw]; exact nI_nm1 (by omega)
    rw [g_Model_journey_13, c_Model_journey_14 (N_fine0 (d := d + 4) nw), g_Model_journey_17, if_pos rfl, c_Model_journey_45 (N_right0 (d := d + 2) h nw), g_Model_journey_48, if_pos rfl, m1, hw]
    exact RnI.mk ⟨g, rfl⟩
  have stop : ∀ (k a c : Nat) (ρ : Sg), min n 60 ≤ a → a ≤ min n 60 → 2 * c ≤ a → RD ρ T n 60 a → sI ρ 3215 = -1 →
    (∀ q m, jrS T (min n 60) k a = (some q, m) → RnI (ev (d + 6) 71 13 [(0, .ref 50), (1, .int (nI c))] [] (mkH ρ)) (fun τ y => Ag kJr ρ τ ∧ y = -1 - nI q)) ∧
    (∀ m, jrS T (min n 60) k a = (none, m) → (min n 60 < n → RnI (ev (d + 6) 71 13 [(0, .ref 50), (1, .int (nI c))] [] (mkH ρ)) (fun τ y => Ag kJr ρ τ ∧ y = -1 - nI (min n 60))) ∧
      (min n 60 = n → ∃ τ, Ag kJr ρ τ ∧ LjM T (min n 60) τ m a c ∧ (∀ i, i < 3 * c → sA τ 66 i = sA ρ 66 i) ∧ ev (d + 6) 71 13 [(0, .ref 50), (1, .int (nI c))] [] (mkH ρ) = ev (d + 6) 71 67 [(0, .ref 50), (1, .int (nI (c + m)))] [.int 0, .ref 61, .ref 51] (mkH τ))) := fun k a c ρ h1 h2 h2c h3 h4 => by
    have n80 := h3.2.2.2.1
    rw [jr_ge h1]
    refine ⟨fun q m hq => ?_, fun m hm => ⟨fun l => ?_, fun l => ⟨ρ, Ag.rf, ?_, fun i hi => rfl, ?_⟩⟩⟩
    · have : none = some q := congrArg Prod.fst hq
      cases this
    · have hin : ¬ (heF T (min n 60) a = 104 ∨ heF T (min n 60) a = 99 ∨ heF T (min n 60) a = 119 ∨ heF T (min n 60) a = 108 ∨ heF T (min n 60) a = 116) := by
        unfold heF; rw [if_neg (by omega)]; decide
      have har : arF T (min n 60) a = some a := by unfold arF; rw [if_neg hin]
      have ra := (M_readAct (d := d + 1) (c := c) h3 h4 (by omega) (by omega)).1 a har
      obtain ⟨τ, r1, r2, r3, b, r4⟩ := ra
      rw [g_Model_journey_13, c_Model_journey_14 (N_fine1 (d := d + 4) h4), g_Model_journey_17, if_neg (by decide), h3.1, h3.2.2.1, if_neg (nI_ge (by omega) (by omega)), show (3 : Int32) * nI c = nI (3 * c) from (Int32.ofNat_mul 3 c).symm, c_Model_journey_35 r1, g_Model_journey_38, show min n 60 = a by omega]
      exact bad (by omega) r4 r3 r2
    · have : 0 = m := congrArg Prod.snd hm
      subst this
      trivial
    · have : 0 = m := congrArg Prod.snd hm
      subst this
      rw [g_Model_journey_13, c_Model_journey_14 (N_fine1 (d := d + 4) h4), g_Model_journey_17, if_neg (by decide), h3.1, h3.2.2.1, if_pos (nI_le (by omega) (by omega)), c_Model_journey_45 (N_right1 (d := d + 2) h3 h4 (by omega)), g_Model_journey_48, if_neg (by decide)]
      rfl
  intro k
  induction k with
  | zero => intro a c ρ h1 h2 h2c h3 h4; exact stop 0 a c ρ (by omega) h2 h2c h3 h4
  | succ k ih =>
    intro a c ρ h1 h2 h2c h3 h4
    by_cases h5 : min n 60 ≤ a
    · exact stop (k + 1) a c ρ h5 h2 h2c h3 h4
    · have n80 := h3.2.2.2.1
      have pre : ev (d + 6) 71 13 [(0, .ref 50), (1, .int (nI c))] [] (mkH ρ) = ev (d + 6) 71 35 [(0, .ref 50), (1, .int (nI c))] [.int (nI (3 * c)), .ref 50] (mkH ρ) := by
        rw [g_Model_journey_13, c_Model_journey_14 (N_fine1 (d := d + 4) h4), g_Model_journey_17, if_neg (by decide), h3.1, h3.2.2.1, if_neg (nI_ge (by omega) (by omega)), show (3 : Int32) * nI c = nI (3 * c) from (Int32.ofNat_mul 3 c).symm]
      obtain ⟨m1', m2'⟩ := M_readAct (d := d + 1) (c := c) h3 h4 (by omega) (by omega)
      rw [pre]
      cases hp : arF T (min n 60) a with
      | some q =>
        rw [jr_some h5 hp]
        refine ⟨fun q' m hq => ?_, fun m hm => ?_⟩
        · have : some q = some q' := congrArg Prod.fst hq
          have := Option.some.inj this
          subst this
          obtain ⟨τ, r1, r2, r3, b, r4⟩ := m1' q hp
          have := ar_q hp
          rw [c_Model_journey_35 r1, g_Model_journey_38]
          exact bad (by omega) r4 r3 r2
        · have : some q = none := congrArg Prod.fst hm
          cases this
      | none =>
        obtain ⟨τ, r1, r2, r3, r4, r5⟩ := m2' hp
        have l := ar_lt hp
        have l2 := ln_23 (T := T) (e := min n 60) (a := a)
        have aτ : Ag kJr ρ τ := r2.wk rfl
        obtain ⟨i1, i2⟩ := ih (a + lnF T (min n 60) a) (c + 1) τ (by omega) l (by omega) r3 ((r2.1 3215 rfl).trans h4)
        rw [jr_none h5 hp, c_Model_journey_35 r1, g_Model_journey_38, nI_1]
        refine ⟨fun q m hq => (i1 q _ (pr_x (show (jrS T (min n 60) k (a + lnF T (min n 60) a)).1 = some q from congrArg Prod.fst hq))).im (fun τ' y ⟨k1, k2⟩ => ⟨aτ.tr k1, k2⟩), fun m hm => ?_⟩
        obtain ⟨v1, v2⟩ := i2 _ (pr_x (show (jrS T (min n 60) k (a + lnF T (min n 60) a)).1 = none from congrArg Prod.fst hm))
        have em : (jrS T (min n 60) k (a + lnF T (min n 60) a)).2 + 1 = m := congrArg Prod.snd hm
        subst em
        refine ⟨fun q => (v1 q).im (fun τ' y ⟨k1, k2⟩ => ⟨aτ.tr k1, k2⟩), fun q => ?_⟩
        obtain ⟨ω, o1, o2, o3, o4⟩ := v2 q
        refine ⟨ω, aτ.tr o1, ⟨⟨(o3 _ (by omega)).trans r4.1, (o3 _ (by omega)).trans r4.2.1, fun z => (o3 _ (by omega)).trans (r4.2.2 z)⟩, o2⟩, fun i hi => (o3 i (by omega)).trans (r5 i hi), ?_⟩
        rw [o4, show c + 1 + (jrS T (min n 60) k (a + lnF T (min n 60) a)).2 = c + ((jrS T (min n 60) k (a + lnF T (min n 60) a)).2 + 1) by omega]
/-- the acts done, by the class -/
noncomputable def jEnd (d : Nat) (x1 x2 x3 : Int32) (τ : Sg) : Option ax_R := if x1 ≤ 0 then (if x2 = 0 then ev (d + 1) 234 132 [(0, .ref 0), (1, .int x1), (2, .int x2), (3, .int x3)] [.long (Int32.toInt64 (sI τ 322)), .long 0, .ref 44] (mkH τ) else ev (d + 1) 234 132 [(0, .ref 0), (1, .int x1), (2, .int x2), (3, .int x3)] [.long (Int32.toInt64 (sI τ 322)), .long 1, .ref 44] (mkH τ)) else ev (d + 1) 234 108 [(0, .ref 0), (1, .int x1), (2, .int x2), (3, .int x3)] [.ref 37] (mkH τ)
theorem C_jdo (he : e ≤ 60) : ∀ (m a dn j : Nat) (f : Nat → Int32) (ρ : Sg), Jr T e m a → j + m ≤ 60 → CT ρ T e a → sI ρ 65 = nI e → CWo W f ρ → ∃ τ x3, Ag kJc ρ τ ∧ CWo W (jdF T e W m a f).2.2 τ ∧ ev (d + 11) 234 42 [(0, .ref 0), (1, .int (nI dn)), (2, .int 0), (3, .int (nI j))] [] (mkH ρ) = jEnd (d + 10) (nI (dn + (jdF T e W m a f).1)) (bif (jdF T e W m a f).2.1 then 1 else 0) x3 τ := by
  intro m
  induction m with
  | zero =>
    intro a dn j f ρ h1 h2 h3 h4 h5
    have h1 : a = e := h1
    subst h1
    refine ⟨ρ, nI j, Ag.rf, h5, ?_⟩
    rw [g_Main_journey_42, h4, h3.1, if_pos (show nI a ≤ nI a from nI_le (Nat.le_refl _) (by omega)), ite_self]
    rfl
  | succ m ih =>
    intro a dn j f ρ h1 h2 h3 h4 h5
    have le := Jr.le _ _ h1
    obtain ⟨ρ1, r, r1, r2, r3, r4, r5⟩ := C_doAct (d := d) h5 h3 h1.1 (by omega)
    rw [g_Main_journey_42, h4, h3.1, if_neg (show ¬ (60 : Int32) ≤ nI j from nI_ge (a := j) (b := 60) (by omega) (by decide)), if_neg (show ¬ nI e ≤ nI a from nI_ge (by omega) (by omega)), if_pos rfl, c_Main_journey_70 r1, g_Main_journey_73]
    cases hb : (acA T e W a f).1 with
    | true =>
      have p0 : (0 : Int32) ≤ r := of_decide_eq_true (r5.trans hb)
      obtain ⟨τ, x3, o1, o2, o3⟩ := ih (a + lnF T e a) (dn + 1) (j + 1) (acA T e W a f).2 ρ1 h1.2 (by omega) r3 ((r2.1 65 rfl).trans h4) r4
      rw [jd_t hb]
      refine ⟨τ, x3, r2.tr o1, o2, ?_⟩
      rw [if_pos p0, if_pos rfl, nI_1, nI_1, o3, show dn + 1 + (jdF T e W m (a + lnF T e a) (acA T e W a f).2).1 = dn + ((jdF T e W m (a + lnF T e a) (acA T e W a f).2).1 + 1) by omega]
    | false =>
      have p0 : ¬ (0 : Int32) ≤ r := of_decide_eq_false (r5.trans hb)
      rw [jd_f hb]
      refine ⟨ρ1, nI j + 1, r2, r4, ?_⟩
      rw [if_neg p0, if_neg (show ¬ (1 : Nat) = 0 by decide), Int32.add_zero, g_Main_journey_42, if_neg (show ¬ (1 : Int32) = 0 by decide), if_neg (show ¬ (1 : Int32) = 0 by decide), ite_self, ite_self]
      unfold jEnd
      rw [cond_true, if_neg (show ¬ (1 : Int32) = 0 by decide)]
      rfl
noncomputable def mEnd (d : Nat) (x1 x2 : Int32) (τ : Sg) : Option ax_R := if x2 ≤ 0 then (if x1 ≤ x2 then ev (d + 1) 71 146 [(0, .ref 50), (1, .int x1), (2, .int x2)] [.long 0, .ref 50] (mkH (uI τ 3209 0)) else ev (d + 1) 71 146 [(0, .ref 50), (1, .int x1), (2, .int x2)] [.long 1, .ref 50] (mkH (uI τ 3209 0))) else ev (d + 1) 71 127 [(0, .ref 50), (1, .int x1), (2, .int x2)] [.ref 61, .ref 50] (mkH τ)
theorem M_jdo (hd : 310 ≤ d) {C : Nat} (hC : C ≤ 70) : ∀ (m c a : Nat) (f : Nat → Int32) (ρ : Sg), c + m = C → Jr T e m a → LjM T e ρ m a c → MWo W f ρ → ∃ τ, Ag (kHm false) ρ τ ∧ MWo W (jdF T e W m a f).2.2 τ ∧ ev (d + 2) 71 72 [(0, .ref 50), (1, .int (nI C)), (2, .int (nI c))] [] (mkH ρ) = mEnd (d + 1) (nI C) (nI (c + (jdF T e W m a f).1)) τ := by
  intro m
  induction m with
  | zero =>
    intro c a f ρ h0 h1 h2 h3
    refine ⟨ρ, Ag.rf, h3, ?_⟩
    have : c = C := by omega
    subst this
    rw [g_Model_journey_72, if_pos (nI_le (Nat.le_refl _) (by omega))]
    rfl
  | succ m ih =>
    intro c a f ρ h0 h1 h2 h3
    obtain ⟨k1, k2, k3⟩ := ar_none h1.1
    obtain ⟨j, j1, j2, j3⟩ := dg_n k2
    obtain ⟨⟨v0, v1, v2⟩, h2'⟩ := h2
    have e3 : (3 : Int32) * nI c = nI (3 * c) := (Int32.ofNat_mul 3 c).symm
    have e31 : nI (3 * c) + (1 : Int32) = nI (3 * c + 1) := nI_add (3 * c) 1
    have e32 : nI (3 * c) + (2 : Int32) = nI (3 * c + 2) := nI_add (3 * c) 2
    obtain ⟨ρ1, r, r1, r2, r3, r4⟩ := M_act (d := d) (y := heF T e (a + 2) - 48) hd h3 j1 k1 (z := sA ρ 66 (3 * c + 2)) v2
    have eA : actF W f (heF T e a) (nI j) (heF T e (a + 2) - 48) = acA T e W a f := by unfold acA; rw [j2]
    rw [eA] at r3 r4
    rw [g_Model_journey_72, if_neg (nI_ge (by omega) (by omega)), e3, e31, e32, ixn (k := 3 * c) (by omega) (by decide), ixn (k := 3 * c + 1) (by omega) (by decide), ixn (k := 3 * c + 2) (by omega) (by decide), cond_true, cond_true, cond_true, cln (n := 3 * c) (by omega), cln (n := 3 * c + 1) (by omega), cln (n := 3 * c + 2) (by omega), v0, v1, j2, c_Model_journey_106 r1, g_Model_journey_109, r4]
    cases hb : (acA T e W a f).1 with
    | true =>
      obtain ⟨τ, o1, o2, o3⟩ := ih (c + 1) (a + lnF T e a) (acA T e W a f).2 ρ1 (by omega) h1.2 (LjM.ag r2 rfl _ _ _ h2') r3
      rw [jd_t hb]
      refine ⟨τ, r2.tr o1, o2, ?_⟩
      rw [cond_true, if_neg (show ¬ (1 : Int32) = 0 by decide), nI_1, o3, show c + 1 + (jdF T e W m (a + lnF T e a) (acA T e W a f).2).1 = c + ((jdF T e W m (a + lnF T e a) (acA T e W a f).2).1 + 1) by omega]
    | false =>
      rw [jd_f hb]
      refine ⟨ρ1, r2, r3, ?_⟩
      rw [cond_false, if_pos rfl]
      rfl
end T3
