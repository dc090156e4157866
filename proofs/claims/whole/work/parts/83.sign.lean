/-! sign, blows -/
section SG
variable {d m x k : Nat} {σ τ : Sg} {W : Wd} {f g : Nat → Int32} {K : List Nat}
theorem b255 (i : Nat) (hi : i < 32) : BitVec.getLsbD (255#32) i = decide (i < 8) := by
  revert hi; revert i; decide
theorem sgn1 {x : Int32} {s : Nat} (hs : s < 32) (hs2 : s + 8 ≤ 32) : ((Int32.toInt8 ((Int32.toInt8 (x >>> nI s)).toInt32)).toInt32) &&& 255 = (Int32.toUInt32 ((Int32.toUInt32 (((Int32.toUInt32 x >>> Int32.toUInt32 (nI s)).toInt32) &&& 255) % 65536).toInt32) % 65536).toInt32 := by
  apply Int32.toBitVec_inj.mp
  apply BitVec.eq_of_getLsbD_eq
  intro i hi
  simp
  exact Nat.zero
end SG
