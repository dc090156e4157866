/-! passengers: the call -/
theorem neg_tab : ∀ q, q < 200 → (-1 - nI q : Int32) ≤ 0 := by decide +kernel
theorem pm_bad {T : Nat → Int32} {e B q : Nat} : ∀ k c, pmS T e B k c = (false, q) → q ≤ 4 * (c + k) + 2
  | 0, c, h => by
    have : 4 * c = q := congrArg Prod.snd h
    omega
  | k + 1, c, h => by
    cases hp : pfF T e B (4 * c) with
    | some q' =>
      rw [pm_some hp] at h
      have : q' = q := congrArg Prod.snd h
      unfold pfF at hp
      split at hp
      · have := Option.some.inj hp; omega
      · split at hp
        · have := Option.some.inj hp; omega
        · split at hp
          · cases hp
          · have := Option.some.inj hp; omega
    | none =>
      rw [pm_none hp] at h
      by_cases z1 : heF T e (4 * c + 3) = 59
      · rw [if_pos z1] at h
        have := pm_bad k (c + 1) h
        omega
      · rw [if_neg z1] at h
        cases h
section PO
variable {d k n : Nat} {σ τ : Sg} {W : Wd} {f T : Nat → Int32}
theorem CWo.ol (h : CWo W f σ) (g : Ag (65 :: kMn) σ τ) (o : OlC σ τ (wp W)) : CWo W f τ := by
  obtain ⟨h1, h2, ⟨q1, q2, q3⟩, h4, ⟨r1, r2, r3⟩, h6⟩ := h
  refine ⟨h1, h2, ⟨(g.1 325 rfl).trans q1, (g.1 334 rfl).trans q2, fun p hp => (o p hp).1.trans (q3 p hp)⟩, h4.ag g rfl, ⟨fun b hb => ?_, fun p hp => ?_, (g.1 322 rfl).trans r3⟩, ?_⟩
  · obtain ⟨s1, s2, s3, s4⟩ := r1 b hb
    exact ⟨(congrFun (g.2.1 10 rfl) b).trans s1, (congrFun (g.2.1 11 rfl) b).trans s2, (congrFun (g.2.1 12 rfl) b).trans s3, (congrFun (g.2.1 13 rfl) b).trans s4⟩
  · obtain ⟨s1, s2, s3⟩ := r2 p hp
    obtain ⟨_, o2, o3, o4⟩ := o p hp
    exact ⟨o2.trans s1, o3.trans s2, o4.trans s3⟩
  · rw [g.2.2.2.1 0 rfl]; exact h6.ag g (by cases sB σ 0 <;> rfl)
/-- how the class reads the lines -/
theorem C_pass {n : Nat} (h : CWo W f σ) (hn : n ≤ 80) (hn0 : 0 < n) (h0 : sI σ 65 = nI n) : RnI (ev (d + 4) 140 0 [(0, .ref 5), (1, .ref 1)] [] (mkH σ)) (fun τ y => Ag kMn σ τ ∧ OlC σ τ (wp W) ∧ (∀ q, pmS (sA σ 2) (min n 35) (wb W) (9 - wp W) 0 = (false, q) → y = -1 ∧ sI τ 66 = nI q) ∧ (∀ z, pmS (sA σ 2) (min n 35) (wb W) (9 - wp W) 0 = (true, z) → y = nI z ∧ sI τ 66 = nI (4 * z - 1) ∧ LnC σ τ (sA σ 2) (min n 35) (wp W) z)) := by
  have w9 := h.1.2.1
  have em : (if (35 : Int32) < nI n then (35 : Int32) else nI n) = nI (min n 35) := by
    rcases Nat.lt_or_ge 35 n with z | z
    · rw [if_pos (show (35 : Int32) < nI n from nI_lt (a := 35) (b := n) z (by omega)), Nat.min_eq_right (by omega)]; rfl
    · rw [if_neg (show ¬ (35 : Int32) < nI n from nI_nlt (a := 35) (b := n) z (by omega)), Nat.min_eq_left z]
  have e1 : ev (d + 3) 203 0 [(0, .ref 1), (1, .int 35)] [] (mkH σ) = rV (uI (uI σ 66 0) 67 (nI (min n 35))) := by rw [g_Script_open_0, h0, em]
  have a1 : Ag kMn σ (uI (uI σ 66 0) 67 (nI (min n 35))) := Ag.I (Ag.I Ag.rf rfl) rfl
  rw [g_Fleet_draftPassengers_0, c_Fleet_draftPassengers_3 e1, g_Fleet_draftPassengers_6, show sI (uI (uI σ 66 0) 67 (nI (min n 35))) 65 = nI n from h0, if_neg (show ¬ nI n = (0 : Int32) from nI_ne (a := n) (b := 0) (by omega) (by decide) (by omega)), show sI (uI (uI σ 66 0) 67 (nI (min n 35))) 334 = nI (wp W) from h.2.2.1.2.1]
  exact C_men (d := d + 1) (P := wp W) (e := min n 35) h.1.1 (by omega) (9 - wp W) 0 (uI (uI σ 66 0) 67 (nI (min n 35))) (by omega) ⟨rfl, rfl, rfl, by omega, by omega⟩ h.2.2.1.1 h.2.2.1.2.1 a1 (fun i hi => ⟨rfl, rfl, rfl, rfl⟩) (fun j hj => absurd hj (Nat.not_lt_zero j))
/-- nothing new: both have read, and say where it went wrong -/
theorem pa_no {σ1 σ2 : Sg} (h : INV k σ) (hW : ∀ W f, CWo W f σ → MWo W f σ → CWo W f σ1) (g1 : Ag (65 :: kMn) σ σ1) (e65 : sI σ1 65 = 0) (g2 : Ag ([3210] ++ kT ++ kTm) σ1 σ2) (e07 : sI σ2 3207 = 0) : INV (k + 1) σ2 := by
  have h0 := h
  obtain ⟨W, f, ⟨c, m, b3, b2⟩, tx, to, go, pa, ke⟩ := h
  have aa : Ag (65 :: kMn ++ ([3210] ++ kT ++ kTm)) σ σ2 := (g1.wk rfl).tr (g2.wk rfl)
  exact h0.of ((hW W f c m).ag g2 rfl) (m.ag aa rfl) (aa.2.2.2.1 3 rfl) (aa.2.2.2.1 2 rfl) (aa.2.2.2.1 0 rfl) ⟨0, by omega, (g2.1 65 rfl).trans e65, e07, fun i hi => absurd hi (Nat.not_lt_zero i)⟩ (to.ag aa rfl rfl) (go.ag aa rfl) (pa.ag aa rfl) (ke.ag aa rfl).mono
end PO
