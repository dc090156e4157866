/-! barges: a line -/
/-- a cell where no barge is, and no lock -/
def frB (W : Wd) (r : Nat → Int32) (b p : Nat) : Bool := decide (p < wc W) && (!(decide (0 < wK W p)) && (fndF (fun i => r i == nI p) b 0 == -1))
/-- how many signs its place takes, and the place -/
def plN (T : Nat → Int32) (e a : Nat) : Nat := if inF (heF T e (a + 1)) 48 57 = 0 then 1 else 2
def plV (T : Nat → Int32) (e a : Nat) : Nat := if inF (heF T e (a + 1)) 48 57 = 0 then Int32.toNatClampNeg (heF T e a - 48) else 10 * Int32.toNatClampNeg (heF T e a - 48) + Int32.toNatClampNeg (heF T e (a + 1) - 48)
def bfF (T : Nat → Int32) (e : Nat) (W : Wd) (r : Nat → Int32) (b a : Nat) : Option Nat :=
  if inF (heF T e a) 48 57 = 0 then some a else
  bif frB W r b (plV T e a) then (if heF T e (a + plN T e a) = 43 ∨ heF T e (a + plN T e a) = 45 then (if inF (heF T e (a + plN T e a + 1)) 48 57 = 0 then some (a + plN T e a + 1) else none) else some (a + plN T e a))
  else some (a + plN T e a - 1)
section BT
variable {d n m a B : Nat} {σ τ : Sg} {T : Nat → Int32} {W : Wd} {x y : Int32}
theorem dg_n {c : Int32} (h : ¬ inF c 48 57 = 0) : ∃ j, j ≤ 9 ∧ c - 48 = nI j ∧ c = nI (48 + j) := by
  obtain ⟨j, j0, j1, ej⟩ := in_n (a := 48) (b := 57) h rfl rfl (by decide) (by decide)
  refine ⟨j - 48, by omega, ?_, ?_⟩
  · rw [ej]; exact nI_sub (a := j) (b := 48) (by omega)
  · rw [ej, show 48 + (j - 48) = j by omega]
/-- the place that a line begins with, by the class -/
theorem C_place {e b : Nat} (h : CT σ T e a) (ha : a ≤ 1000) (h0 : ¬ inF (heF T e a) 48 57 = 0) : ∃ (x4 : Int32) (τ : Sg), Ag [66] σ τ ∧ CT τ T e (a + plN T e a) ∧ plV T e a ≤ 99 ∧ ev (d + 2) 139 0 [(0, .ref 5), (1, .ref 1), (2, .int (nI b))] [] (mkH σ) = ev (d + 2) 139 35 [(0, .ref 5), (1, .ref 1), (2, .int (nI b)), (3, .int (nI (plV T e a))), (4, .int x4)] [.int (nI (plV T e a)), .ref 3] (mkH τ) := by
  have hd := C_dig (d := d) h
  rw [if_neg h0] at hd
  obtain ⟨j, j1, j2, j3⟩ := dg_n h0
  rw [j2] at hd
  have h1 : CT (uI σ 66 (nI (a + 1))) T e (a + 1) := h.nx (by omega) rfl
  have a1 : Ag [66] σ (uI σ 66 (nI (a + 1))) := Ag.I Ag.rf rfl
  have hd1 := C_dig (d := d) h1
  rw [g_Fleet_draftBarge_0, c_Fleet_draftBarge_1 hd, g_Fleet_draftBarge_4, if_pos (show (0 : Int32) ≤ nI j from show nI 0 ≤ nI j from nI_le (Nat.zero_le _) (by omega))]
  generalize uI σ 66 (nI (a + 1)) = σ1 at h1 a1 hd1
  by_cases c1 : inF (heF T e (a + 1)) 48 57 = 0
  · have e1 : plN T e a = 1 := if_pos c1
    have e2 : plV T e a = j := by unfold plV; rw [if_pos c1, j2, cln (n := j) (by omega)]
    rw [if_pos c1] at hd1
    refine ⟨-1, σ1, a1, by rw [e1]; exact h1, by omega, ?_⟩
    rw [c_Fleet_draftBarge_12 hd1, g_Fleet_draftBarge_15, if_pos (by decide), e2]
  · obtain ⟨i, i1, i2, i3⟩ := dg_n c1
    have e1 : plN T e a = 2 := if_neg c1
    have e2 : plV T e a = 10 * j + i := by unfold plV; rw [if_neg c1, j2, i2, cln (n := j) (by omega), cln (n := i) (by omega)]
    rw [if_neg c1, i2] at hd1
    refine ⟨nI i, uI σ1 66 (nI (a + 1 + 1)), a1.tr (Ag.I Ag.rf rfl), by rw [e1]; exact h1.nx (by omega) rfl, by omega, ?_⟩
    rw [c_Fleet_draftBarge_12 hd1, g_Fleet_draftBarge_15, if_neg (nI_pos (by omega)), e2, show nI j * (10 : Int32) = nI (10 * j) from by rw [Nat.mul_comm]; exact (Int32.ofNat_mul j 10).symm, nI_add]
end BT
