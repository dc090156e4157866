/-! Pure: what an hour keeps -/
theorem add_sub3 (a b c : Int32) : a + (b - c) = a + b - c := by rw [Int32.sub_eq_add_neg, Int32.sub_eq_add_neg, Int32.add_assoc]
theorem nI_sub {a b : Nat} (h : b ≤ a) : nI a - nI b = nI (a - b) := by
  have e : nI a = nI (a - b) + nI b := by rw [nI_add, Nat.sub_add_cancel h]
  rw [e, Int32.add_sub_cancel]
theorem ae_ix {W : Wd} {g : Nat → Int32} {b : Nat} (hW : WO W) (hx : ax_ix (g b) (wc W) = true) (hz : z1 (g (4 + b))) : aeF W g b = !ax_ix (toF g b) (wc W) := by
  obtain ⟨c, h1, h2, h3⟩ := ix_of hx
  have w30 := hW.2.2.2.1
  have w4 := hW.2.2.1
  unfold aeF toF nxF
  rw [h3]
  rcases hz with h | h
  · rw [h, if_pos rfl, if_pos rfl, nI_1, show nI (wc W) - 1 = nI (wc W - 1) from nI_sub (b := 1) (by omega)]
    by_cases e : c + 1 < wc W
    · rw [ixn e (by omega), beq_f (fun z => by have := (nI_eq (by omega) (by omega)).mp z; omega)]; rfl
    · rw [ix_ge (by omega) (by omega), beq_t (by rw [show c = wc W - 1 by omega])]; rfl
  · rw [h, if_neg (by decide), if_neg (by decide)]
    cases c with
    | zero => rw [show nI 0 - 1 = -1 from by decide, ix_neg (by decide)]; rfl
    | succ c =>
      rw [nI_pred, ixn (by omega) (by omega), beq_f (nI_ne0 (by omega) (by omega))]; rfl
/-- what going keeps -/
def Gd (W : Wd) (f : Nat → Int32) (q : Qs) : Prop := OK W q.1 ∧ ∀ i, 4 ≤ i → q.1 i = f i
theorem OK.cell {W : Wd} {g : Nat → Int32} {b : Nat} {x : Int32} (h : OK W g) (hb : b < 4) (hx : ax_ix x (wc W) = true) : OK W (upd g b x) := by
  refine ⟨fun c hc => ?_, fun p hp => ?_⟩
  · have := h.1 c hc
    rw [upN (show 4 + c ≠ b by omega), upN (show 8 + c ≠ b by omega), upN (show 12 + c ≠ b by omega)]
    refine ⟨?_, this.2⟩
    by_cases e : c = b
    · rw [e, upS]; exact hx
    · rw [upN e]; exact this.1
  · have := h.2 p hp
    rw [upN (show 16 + p ≠ b by omega), upN (show 25 + p ≠ b by omega), upN (show 34 + p ≠ b by omega)]
    exact this
section PURE
variable {W : Wd} {f wd hd : Nat → Int32} {b n : Nat} {q q' : Qs}
theorem on_lt (hW : WO W) {g : Nat → Int32} {c : Int32} (h : ¬ onF W g c = -1) : Int32.toNatClampNeg (onF W g c) < wb W ∧ onF W g c = nI (Int32.toNatClampNeg (onF W g c)) ∧ g (Int32.toNatClampNeg (onF W g c)) = c := by
  rcases on_cases (f := g) (c := c) hW with h1 | ⟨i, h1, h2, h3⟩
  · exact absurd h1 h
  · have w4 := hW.1
    rw [h3, show Int32.toNatClampNeg (nI i) = i from nI_clamp (by omega)]
    exact ⟨h1, rfl, h2⟩
theorem st_gd (hW : WO W) (hb : b < wb W) (hg : Gd W f q) (h : stF W wd hd b q = some q') : Gd W f q' ∧ q'.2.1 = q.2.1 + 1 := by
  have w4 := hW.1
  have a1 := ae_ix hW (hg.1.1 b hb).1 (hg.1.1 b hb).2.1
  unfold stF at h
  cases ha : aeF W q.1 b with
  | true => rw [ha] at h; cases h
  | false =>
    rw [ha] at h a1
    have hx : ax_ix (toF q.1 b) (wc W) = true := by
      cases hc : ax_ix (toF q.1 b) (wc W) with
      | true => rfl
      | false => rw [hc] at a1; cases a1
    rw [cond_false] at h
    split at h
    · split at h
      · cases h
        exact ⟨⟨hg.1.cell (by omega) hx, fun i hi => by
          show upd q.1 b _ i = f i
          rw [upN (by omega)]; exact hg.2 i hi⟩, rfl⟩
      · rename_i ho
        obtain ⟨o1, o2, o3⟩ := on_lt hW ho
        cases hy : (yiF W wd q.1 b (Int32.toNatClampNeg (onF W q.1 (toF q.1 b))) && clF W q.1 (bhF q.1 b)) with
        | false => rw [hy] at h; cases h
        | true =>
          rw [hy, cond_true] at h
          cases h
          have hy2 : clF W q.1 (bhF q.1 b) = true := (Bool.and_eq_true_iff.mp hy).2
          unfold clF at hy2
          have hx2 : ax_ix (bhF q.1 b) (wc W) = true := (Bool.and_eq_true_iff.mp (Bool.and_eq_true_iff.mp hy2).1).1
          exact ⟨⟨(hg.1.cell (by omega) hx2).cell (by omega) hx, fun i hi => by
            show upd (upd q.1 _ _) b _ i = f i
            rw [upN (by omega), upN (by omega)]; exact hg.2 i hi⟩, rfl⟩
    · cases h
theorem rn_gd (hW : WO W) (hb : b < wb W) : ∀ (n : Nat) (q : Qs), Gd W f q → Gd W f (rnF W wd hd b n q) ∧ ∃ j, j ≤ n ∧ (rnF W wd hd b n q).2.1 = q.2.1 + nI j ∧ (j = 0 → rnF W wd hd b n q = q)
  | 0, q, hg => ⟨hg, 0, Nat.le_refl _, (Int32.add_zero _).symm, fun _ => rfl⟩
  | n + 1, q, hg => by
    show Gd W f (match stF W wd hd b q with | none => q | some q' => rnF W wd hd b n q') ∧ ∃ j, j ≤ n + 1 ∧ (match stF W wd hd b q with | none => q | some q' => rnF W wd hd b n q').2.1 = q.2.1 + nI j ∧ (j = 0 → (match stF W wd hd b q with | none => q | some q' => rnF W wd hd b n q') = q)
    cases hs : stF W wd hd b q with
    | none => exact ⟨hg, 0, Nat.zero_le _, (Int32.add_zero _).symm, fun _ => rfl⟩
    | some q1 =>
      obtain ⟨g1, g2⟩ := st_gd hW hb hg hs
      obtain ⟨h1, j, h2, h3, h4⟩ := rn_gd hW hb n q1 g1
      refine ⟨h1, j + 1, by omega, ?_, fun z => by omega⟩
      show (rnF W wd hd b n q1).2.1 = _
      rw [h3, g2, Int32.add_assoc, show (1 : Int32) = nI 1 from rfl, nI_add, Nat.add_comm]
theorem ti_3 : Int32.toNatClampNeg (tiF wd b) ≤ 3 := by
  unfold tiF mnF
  split
  · rename_i h
    generalize (wd b + 2) / 3 = x at h
    by_cases hx : x < 0
    · have : Int32.toNatClampNeg x = 0 := by
        show x.toInt.toNat = 0
        rw [Int32.lt_iff_toInt_lt, show (0 : Int32).toInt = 0 from by decide] at hx
        omega
      omega
    · obtain ⟨j, hj, rfl⟩ := nI_of hx
      rw [show Int32.toNatClampNeg (nI j) = j from nI_clamp hj]
      rw [Int32.lt_iff_toInt_lt, nI_toInt hj, show (3 : Int32).toInt = 3 from by decide] at h
      omega
  · decide
theorem go_gd (hW : WO W) (hb : b < wb W) (q : Qs) (hg : Gd W f q) : Gd W f (goF W wd hd b q) ∧ ∃ j, j ≤ 3 ∧ (goF W wd hd b q).2.1 = q.2.1 + nI j ∧ (j = 0 → goF W wd hd b q = q) := by
  unfold goF
  split
  · obtain ⟨h1, j, h2, h3, h4⟩ := rn_gd (wd := wd) (hd := hd) hW hb (Int32.toNatClampNeg (tiF wd b)) q hg
    exact ⟨h1, j, Nat.le_trans h2 ti_3, h3, h4⟩
  · exact ⟨hg, 0, by omega, (Int32.add_zero _).symm, fun _ => rfl⟩
theorem goA_gd (hW : WO W) : ∀ (n : Nat) (q : Qs), n ≤ wb W → Gd W f q → Gd W f (goA W wd hd n q) ∧ ∃ j, j ≤ 3 * n ∧ (goA W wd hd n q).2.1 = q.2.1 + nI j ∧ (j = 0 → goA W wd hd n q = q)
  | 0, q, _, hg => ⟨hg, 0, Nat.le_refl _, (Int32.add_zero _).symm, fun _ => rfl⟩
  | n + 1, q, hn, hg => by
    obtain ⟨h1, j, h2, h3, h4⟩ := goA_gd hW n q (by omega) hg
    obtain ⟨g1, i, g2, g3, g4⟩ := go_gd (wd := wd) (hd := hd) (b := n) hW (by omega) _ h1
    refine ⟨g1, j + i, by omega, ?_, fun z => ?_⟩
    · show (goF W wd hd n (goA W wd hd n q)).2.1 = _
      rw [g3, h3, Int32.add_assoc, nI_add]
    · show goF W wd hd n (goA W wd hd n q) = q
      rw [g4 (by omega), h4 (by omega)]
theorem ho_nn (hW : WO W) (ho : OK W f) (b : Nat) : ∃ j, j ≤ 81 ∧ hoF W f b = nI j := by
  have key : ∀ k, k ≤ wp W → ∃ j, j ≤ 9 * k ∧ accF (hoG f b) k 0 = nI j := by
    intro k
    induction k with
    | zero => exact fun _ => ⟨0, by omega, rfl⟩
    | succ k ih =>
      intro hk
      obtain ⟨j, h1, h2⟩ := ih (by omega)
      obtain ⟨i, h3, h4⟩ := (ho.2 k (by omega)).2.2
      show ∃ j, j ≤ 9 * (k + 1) ∧ (if f (16 + k) = nI b ∧ ¬ f (25 + k) = 0 then accF (hoG f b) k 0 + f (34 + k) else accF (hoG f b) k 0) = nI j
      split
      · exact ⟨j + i, by omega, by rw [h2, h4, nI_add]⟩
      · exact ⟨j, by omega, h2⟩
  obtain ⟨j, h1, h2⟩ := key (wp W) (Nat.le_refl _)
  have := hW.2.1
  exact ⟨j, by omega, h2⟩
theorem pu_le {p a : Nat} (h : f (34 + p) = nI a) (ha : a ≤ 9) : ∃ j, j ≤ a ∧ puF W f p = nI j := by
  unfold puF
  split
  · exact ⟨0, Nat.zero_le _, rfl⟩
  · rw [h]
    generalize puV W f p = v
    by_cases h1 : v < nI a
    · rw [show mnF (nI a) v = v from if_pos h1]
      by_cases h0 : 0 < v
      · rw [show mxF 0 v = v from if_pos h0]
        obtain ⟨j, hj, rfl⟩ := nI_of (x := v) (by
          intro z
          rw [Int32.lt_iff_toInt_lt] at z h0
          omega)
        have := (nI_ltI hj (by omega)).mp h1
        exact ⟨j, by omega, rfl⟩
      · rw [show mxF 0 v = 0 from if_neg h0]
        exact ⟨0, Nat.zero_le _, rfl⟩
    · rw [show mnF (nI a) v = nI a from if_neg h1]
      by_cases h0 : 0 < nI a
      · rw [show mxF 0 (nI a) = nI a from if_pos h0]
        exact ⟨a, Nat.le_refl _, rfl⟩
      · rw [show mxF 0 (nI a) = 0 from if_neg h0]
        exact ⟨0, Nat.zero_le _, rfl⟩
theorem goH_gd (hW : WO W) (ho : OK W f) : Gd W f (goH W f) ∧ ((goH W f).2.1 = 0 → goH W f = (f, 0, 0)) := by
  obtain ⟨h1, j, h2, h3, h4⟩ := goA_gd (f := f) (wd := wiF W f) (hd := hoF W f) hW (wb W) (f, 0, 0) (Nat.le_refl _) ⟨ho, fun _ _ => rfl⟩
  refine ⟨h1, fun z => h4 ?_⟩
  have w4 := hW.1
  have e : (0 : Int32) + nI j = 0 := h3.symm.trans z
  rw [Int32.zero_add] at e
  exact (nI_eq (a := j) (b := 0) (by omega) (by omega)).mp e
theorem mn_n9 {x y : Int32} (hx : n9 x) {k : Nat} (hk : k < 2147483648) (hy : y = nI k) : n9 (mnF x y) := by
  obtain ⟨j, h1, rfl⟩ := hx
  subst hy
  unfold mnF
  split
  · rename_i h
    have := (nI_ltI (by omega) (by omega)).mp h
    exact ⟨k, by omega, rfl⟩
  · exact ⟨j, h1, rfl⟩
theorem mo_n9 {p : Nat} {g : Nat → Int32} (h1 : n9 (f (34 + p))) (h2 : g (34 + p) = f (34 + p)) : ∃ k, k ≤ 11 ∧ g (34 + p) + moF W f g p = nI k := by
  obtain ⟨a, ha, e⟩ := h1
  obtain ⟨j, hj, e2⟩ := pu_le (W := W) e ha
  rw [h2, e]
  unfold moF
  rw [e2]
  split
  · exact ⟨a + 1, by omega, nI_1 a⟩
  · split
    · exact ⟨a + 2 - j, by omega, by rw [add_sub3, show (2 : Int32) = nI 2 from rfl, nI_add, nI_sub (by omega)]⟩
    · exact ⟨a + 1 - j, by omega, by rw [add_sub3, show (1 : Int32) = nI 1 from rfl, nI_add, nI_sub (by omega)]⟩
theorem hrG_c {g : Nat → Int32} {i : Nat} (hi : i < 12) : hrG W f g i = g i := by
  unfold hrG; rw [if_neg (by omega), if_neg (by omega), if_neg (by omega)]
theorem hrG_t {g : Nat → Int32} {b : Nat} (hb : b < wb W) : hrG W f g (12 + b) = bif aeF W g b then 1 else g (12 + b) := by
  unfold hrG; rw [if_pos (by omega), Nat.add_sub_cancel_left]
theorem hrG_m (hW : WO W) {g : Nat → Int32} {i : Nat} (h1 : 16 ≤ i) (h2 : i < 34) : hrG W f g i = g i := by
  have := hW.1
  unfold hrG; rw [if_neg (by omega), if_neg (by omega), if_neg (by omega)]
theorem hrG_a (hW : WO W) {g : Nat → Int32} {p : Nat} (hp : p < wp W) : hrG W f g (34 + p) = mnF (wl W p) (g (34 + p) + moF W f g p) := by
  have := hW.1
  unfold hrG; rw [if_neg (by omega), if_pos (by omega), Nat.add_sub_cancel_left]
theorem hrG_h (hW : WO W) {g : Nat → Int32} : hrG W f g 43 = g 43 + 1 := by
  have := hW.1
  have := hW.2.1
  unfold hrG; rw [if_neg (by omega), if_neg (by omega), if_pos rfl]
theorem hrG_o (hW : WO W) {g : Nat → Int32} {i : Nat} (h1 : ¬ (12 ≤ i ∧ i < 12 + wb W)) (h2 : ¬ (34 ≤ i ∧ i < 34 + wp W)) (h3 : i ≠ 43) : hrG W f g i = g i := by
  unfold hrG; rw [if_neg h1, if_neg h2, if_neg h3]
theorem hr_ok (hW : WO W) (ho : OK W f) : OK W (hrF W f).1 := by
  have hg := (goH_gd hW ho).1
  have w4 := hW.1
  have w9 := hW.2.1
  show OK W (hrG W f (goH W f).1)
  refine ⟨fun b hb => ?_, fun p hp => ?_⟩
  · obtain ⟨a1, a2, a3, a4⟩ := hg.1.1 b hb
    rw [hrG_c (by omega), hrG_c (by omega), hrG_c (by omega), hrG_t hb]
    refine ⟨a1, a2, a3, ?_⟩
    cases aeF W (goH W f).1 b
    · exact a4
    · exact Or.inr rfl
  · obtain ⟨a1, a2, a3⟩ := hg.1.2 p hp
    rw [hrG_m hW (by omega) (by omega), hrG_m hW (by omega) (by omega), hrG_a hW hp]
    refine ⟨a1, a2, ?_⟩
    obtain ⟨k, k1, k2⟩ := mo_n9 (W := W) (f := f) (p := p) (g := (goH W f).1) (ho.2 p hp).2.2 (hg.2 _ (by omega))
    exact mn_n9 (hW.2.2.2.2.2 p hp) (by omega) k2
theorem it_ok (hW : WO W) (ho : OK W f) : ∀ n, OK W (itF W f n).1
  | 0 => ho
  | n + 1 => hr_ok hW (it_ok hW ho n)
/-- nothing was other than ahead of it, but the hour -/
theorem hr_same (hW : WO W) (h1 : goH W f = (f, 0, 0)) (h2 : ∀ b, b < wb W → aeF W f b = true → f (12 + b) = 1) (h3 : ∀ p, p < wp W → mnF (wl W p) (f (34 + p) + moF W f f p) = f (34 + p)) : hrF W f = (upd f 43 (f 43 + 1), 0, 0) := by
  unfold hrF
  rw [h1]
  show (hrG W f f, ((0 : Int32), (0 : Int32))) = _
  have e : hrG W f f = upd f 43 (f 43 + 1) := by
    funext i
    by_cases c1 : 12 ≤ i ∧ i < 12 + wb W
    · obtain ⟨b, rfl⟩ : ∃ b, i = 12 + b := ⟨i - 12, by omega⟩
      have hb : b < wb W := by omega
      have := hW.1
      rw [hrG_t hb, upN (by omega)]
      cases ha : aeF W f b
      · rfl
      · exact (h2 b hb ha).symm
    · by_cases c2 : 34 ≤ i ∧ i < 34 + wp W
      · obtain ⟨p, rfl⟩ : ∃ p, i = 34 + p := ⟨i - 34, by omega⟩
        have := hW.2.1
        rw [hrG_a hW (by omega), upN (by omega)]
        exact h3 p (by omega)
      · by_cases c3 : i = 43
        · subst c3; rw [hrG_h hW, upS]
        · rw [hrG_o hW c1 c2 c3, upN c3]
  rw [e]
/-! the hour alone is other -/
theorem on_43 (hW : WO W) {g : Nat → Int32} {h c : Int32} : onF W (upd g 43 h) c = onF W g c := by
  have := hW.1
  unfold onF
  exact fndF_congr _ _ (fun i _ hi => by rw [upN (by omega)])
theorem me_43 (hW : WO W) {g : Nat → Int32} {h : Int32} (hb : b < 4) : meF W (upd g 43 h) b = meF W g b := by
  unfold meF
  rw [on_43 hW, upN (by omega), upN (by omega)]
theorem ab_43 (hW : WO W) {g : Nat → Int32} {h x : Int32} : abF W (upd g 43 h) x = abF W g x := by
  have := hW.2.1
  unfold abF bitsF
  refine accF_congr (fun k y hk => ?_)
  dsimp only [bitF]
  rw [upN (by omega)]
theorem pu_43 (hW : WO W) (hn : nohr (wV W)) (ho : OK W f) {h : Int32} {p : Nat} (hp : p < wp W) : puF W (upd f 43 h) p = puF W f p := by
  have w4 := hW.1
  have w9 := hW.2.1
  have hlt := ix_lt (ho.2 p hp).1
  unfold puF puV
  rw [upN (show 25 + p ≠ 43 by omega), upN (show 34 + p ≠ 43 by omega), upN (show 16 + p ≠ 43 by omega), upN (show 8 + Int32.toNatClampNeg (f (16 + p)) ≠ 43 by omega), ab_43 hW, me_43 hW (by omega), hn _ _ _ _ _ (upd f 43 h 43 - upd f 43 h 43 / 12 * 12) (f 43 - f 43 / 12 * 12)]
theorem wi_43 (hW : WO W) (hn : nohr (wV W)) (ho : OK W f) {h : Int32} (hb : b < wb W) : wiF W (upd f 43 h) b = wiF W f b := by
  have w4 := hW.1
  have w9 := hW.2.1
  unfold wiF
  rw [upN (show 8 + b ≠ 43 by omega), accF_congr (h := wiG W f b) (fun k y hk => ?_)]
  unfold wiG
  rw [upN (show 16 + k ≠ 43 by omega), upN (show 25 + k ≠ 43 by omega), pu_43 hW hn ho hk]
theorem ho_43 (hW : WO W) {h : Int32} : hoF W (upd f 43 h) b = hoF W f b := by
  have w9 := hW.2.1
  unfold hoF
  rw [accF_congr (h := hoG f b) (fun k y hk => ?_)]
  unfold hoG
  rw [upN (show 16 + k ≠ 43 by omega), upN (show 25 + k ≠ 43 by omega), upN (show 34 + k ≠ 43 by omega)]
def m43 (h : Int32) (q : Qs) : Qs := (upd q.1 43 h, q.2)
theorem up_43 {g : Nat → Int32} {b : Nat} {h x : Int32} (hb : b < 43) : upd (upd g 43 h) b x = upd (upd g b x) 43 h := by
  funext i
  by_cases c1 : i = b
  · subst c1; rw [upS, upN (by omega), upS]
  · by_cases c2 : i = 43
    · subst c2; rw [upN c1, upS, upS]
    · rw [upN c1, upN c2, upN c2, upN c1]
theorem st_43 (hW : WO W) (hb : b < wb W) {wd' hd' : Nat → Int32} (hwd : ∀ b, b < wb W → wd' b = wd b) (hhd : ∀ b, b < wb W → hd' b = hd b) {h : Int32} : stF W wd' hd' b (m43 h q) = (stF W wd hd b q).map (m43 h) := by
  have w4 := hW.1
  have e1 : aeF W (upd q.1 43 h) b = aeF W q.1 b := by
    unfold aeF; rw [upN (show b ≠ 43 by omega), upN (show 4 + b ≠ 43 by omega)]
  have e2 : toF (upd q.1 43 h) b = toF q.1 b := by
    unfold toF; rw [upN (show b ≠ 43 by omega), upN (show 4 + b ≠ 43 by omega)]
  have e3 : bhF (upd q.1 43 h) b = bhF q.1 b := by
    unfold bhF; rw [e2, upN (show 4 + b ≠ 43 by omega)]
  unfold stF
  show (bif aeF W (upd q.1 43 h) b then none else if wK W (Int32.toNatClampNeg (toF (upd q.1 43 h) b)) ≤ hd' b then (if onF W (upd q.1 43 h) (toF (upd q.1 43 h) b) = -1 then some (upd (upd q.1 43 h) b (toF (upd q.1 43 h) b), q.2.1 + 1, q.2.2) else bif yiF W wd' (upd q.1 43 h) b (Int32.toNatClampNeg (onF W (upd q.1 43 h) (toF (upd q.1 43 h) b))) && clF W (upd q.1 43 h) (bhF (upd q.1 43 h) b) then some (upd (upd (upd q.1 43 h) (Int32.toNatClampNeg (onF W (upd q.1 43 h) (toF (upd q.1 43 h) b))) (bhF (upd q.1 43 h) b)) b (toF (upd q.1 43 h) b), q.2.1 + 1, q.2.2 + 1) else none) else none) = _
  rw [e1, e2, e3, on_43 hW, hhd b hb]
  cases aeF W q.1 b with
  | true => rfl
  | false =>
    rw [cond_false, cond_false]
    by_cases c1 : wK W (Int32.toNatClampNeg (toF q.1 b)) ≤ hd b
    · rw [if_pos c1, if_pos c1]
      by_cases c2 : onF W q.1 (toF q.1 b) = -1
      · rw [if_pos c2, if_pos c2, up_43 (by omega)]; rfl
      · rw [if_neg c2, if_neg c2]
        obtain ⟨o1, o2, o3⟩ := on_lt hW c2
        have e4 : yiF W wd' (upd q.1 43 h) b (Int32.toNatClampNeg (onF W q.1 (toF q.1 b))) = yiF W wd q.1 b (Int32.toNatClampNeg (onF W q.1 (toF q.1 b))) := by
          unfold yiF
          rw [upN (show 12 + Int32.toNatClampNeg (onF W q.1 (toF q.1 b)) ≠ 43 by omega), upN (show 4 + Int32.toNatClampNeg (onF W q.1 (toF q.1 b)) ≠ 43 by omega), upN (show 4 + b ≠ 43 by omega), hwd _ o1, hwd b hb]
        have e5 : clF W (upd q.1 43 h) (bhF q.1 b) = clF W q.1 (bhF q.1 b) := by
          unfold clF; rw [on_43 hW]
        rw [e4, e5]
        cases (yiF W wd q.1 b (Int32.toNatClampNeg (onF W q.1 (toF q.1 b))) && clF W q.1 (bhF q.1 b)) with
        | false => rfl
        | true => rw [cond_true, cond_true, up_43 (by omega), up_43 (by omega)]; rfl
    · rw [if_neg c1, if_neg c1]; rfl
theorem rn_43 (hW : WO W) (hb : b < wb W) {wd' hd' : Nat → Int32} (hwd : ∀ b, b < wb W → wd' b = wd b) (hhd : ∀ b, b < wb W → hd' b = hd b) {h : Int32} : ∀ (n : Nat) (q : Qs), rnF W wd' hd' b n (m43 h q) = m43 h (rnF W wd hd b n q)
  | 0, _ => rfl
  | n + 1, q => by
    show (match stF W wd' hd' b (m43 h q) with | none => m43 h q | some q' => rnF W wd' hd' b n q') = m43 h (match stF W wd hd b q with | none => q | some q' => rnF W wd hd b n q')
    rw [st_43 hW hb hwd hhd]
    cases stF W wd hd b q with
    | none => rfl
    | some q1 => exact rn_43 hW hb hwd hhd n q1
theorem goA_43 (hW : WO W) {wd' hd' : Nat → Int32} (hwd : ∀ b, b < wb W → wd' b = wd b) (hhd : ∀ b, b < wb W → hd' b = hd b) {h : Int32} : ∀ (n : Nat) (q : Qs), n ≤ wb W → goA W wd' hd' n (m43 h q) = m43 h (goA W wd hd n q)
  | 0, _, _ => rfl
  | n + 1, q, hn => by
    have w4 := hW.1
    show goF W wd' hd' n (goA W wd' hd' n (m43 h q)) = m43 h (goF W wd hd n (goA W wd hd n q))
    rw [goA_43 hW hwd hhd n q (by omega)]
    unfold goF
    show (if upd (goA W wd hd n q).1 43 h (12 + n) = 0 then _ else _) = _
    rw [upN (show 12 + n ≠ 43 by omega)]
    have et : tiF wd' n = tiF wd n := by unfold tiF; rw [hwd n (by omega)]
    split
    · rw [et]; exact rn_43 hW (by omega) hwd hhd _ _
    · rfl
theorem hr_43 (hW : WO W) (hn : nohr (wV W)) (ho : OK W f) (h : Int32) : hrF W (upd f 43 h) = (upd (hrF W f).1 43 (h + 1), (hrF W f).2) := by
  have w4 := hW.1
  have w9 := hW.2.1
  have e : goH W (upd f 43 h) = m43 h (goH W f) := goA_43 hW (fun b hb => wi_43 hW hn ho hb) (fun b _ => ho_43 hW) (wb W) (f, 0, 0) (Nat.le_refl _)
  have hg := (goH_gd hW ho).1
  unfold hrF
  rw [e]
  show (hrG W (upd f 43 h) (upd (goH W f).1 43 h), (goH W f).2) = _
  have e2 : hrG W (upd f 43 h) (upd (goH W f).1 43 h) = upd (hrG W f (goH W f).1) 43 (h + 1) := by
    funext i
    generalize hgq : (goH W f).1 = g at hg
    by_cases c1 : 12 ≤ i ∧ i < 12 + wb W
    · obtain ⟨b, rfl⟩ : ∃ b, i = 12 + b := ⟨i - 12, by omega⟩
      have hb : b < wb W := by omega
      rw [hrG_t hb, upN (show 12 + b ≠ 43 by omega), upN (show 12 + b ≠ 43 by omega), hrG_t hb]
      have : aeF W (upd g 43 h) b = aeF W g b := by
        unfold aeF; rw [upN (show b ≠ 43 by omega), upN (show 4 + b ≠ 43 by omega)]
      rw [this]
    · by_cases c2 : 34 ≤ i ∧ i < 34 + wp W
      · obtain ⟨p, rfl⟩ : ∃ p, i = 34 + p := ⟨i - 34, by omega⟩
        have hp : p < wp W := by omega
        rw [hrG_a hW hp, upN (show 34 + p ≠ 43 by omega), upN (show 34 + p ≠ 43 by omega), hrG_a hW hp]
        have hlt := ix_lt (ho.2 p hp).1
        have : moF W (upd f 43 h) (upd g 43 h) p = moF W f g p := by
          unfold moF
          rw [upN (show 25 + p ≠ 43 by omega), upN (show 16 + p ≠ 43 by omega), upN (show Int32.toNatClampNeg (f (16 + p)) ≠ 43 by omega), pu_43 hW hn ho hp]
        rw [this]
      · by_cases c3 : i = 43
        · subst c3; rw [hrG_h hW, upS, upS]
        · rw [hrG_o hW c1 c2 c3, upN c3, upN c3, hrG_o hW c1 c2 c3]
  rw [e2]
/-- all later hours are like this one -/
theorem it_same (hW : WO W) (hn : nohr (wV W)) (ho : OK W f) {k : Nat} (h : hrF W (itF W f k).1 = (upd (itF W f k).1 43 ((itF W f k).1 43 + 1), 0, 0)) : ∀ m, itF W f (k + m) = (upd (itF W f k).1 43 ((itF W f k).1 43 + nI m), (itF W f k).2)
  | 0 => by
    have e : upd (itF W f k).1 43 ((itF W f k).1 43 + nI 0) = (itF W f k).1 := by
      funext i
      by_cases c : i = 43
      · subst c; rw [upS]; exact Int32.add_zero _
      · rw [upN c]
    rw [e]; rfl
  | m + 1 => by
    show ((hrF W (itF W f (k + m)).1).1, (itF W f (k + m)).2.1 + (hrF W (itF W f (k + m)).1).2.1, (itF W f (k + m)).2.2 + (hrF W (itF W f (k + m)).1).2.2) = _
    rw [it_same hW hn ho h m]
    show ((hrF W (upd (itF W f k).1 43 ((itF W f k).1 43 + nI m))).1, (itF W f k).2.1 + (hrF W (upd (itF W f k).1 43 ((itF W f k).1 43 + nI m))).2.1, (itF W f k).2.2 + (hrF W (upd (itF W f k).1 43 ((itF W f k).1 43 + nI m))).2.2) = _
    rw [hr_43 hW hn (it_ok hW ho k), h]
    show (upd (upd (itF W f k).1 43 _) 43 _, (itF W f k).2.1 + 0, (itF W f k).2.2 + 0) = _
    rw [Int32.add_zero, Int32.add_zero]
    have e : upd (upd (itF W f k).1 43 ((itF W f k).1 43 + 1)) 43 ((itF W f k).1 43 + nI m + 1) = upd (itF W f k).1 43 ((itF W f k).1 43 + nI (m + 1)) := by
      funext i
      by_cases c : i = 43
      · subst c; rw [upS, upS, Int32.add_assoc, nI_1]
      · rw [upN c, upN c, upN c]
    rw [e]
end PURE
