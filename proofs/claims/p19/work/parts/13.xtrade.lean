section CHG
/-! H: getMargin, withdraw, trade -/
theorem ch_PoU {M : Nat} {st ps : Nat → Int32} {s : Nat} {x : Int32} (hM : M ≤ 8) (h : ch_Po M st ps) (hx : ch_ab 10000 x) : ch_Po M st (upd ps s x) := by
  have b := ch_pbB (st := st) hM
  exact ch_uAll (P := ch_ab (ch_pb st M)) h (ch_abM hx b.1)
theorem ch_wadd {x y : Int32} (h : -2147483648 ≤ x.toInt + y.toInt) (h' : x.toInt + y.toInt < 2147483648) : x.toInt64 + y.toInt64 = (x + y).toInt64 := by
  rw [ch_Li, ch_Li, ch_Li, ch_Ladd, ch_addI h h']
theorem ch_wsub {x y : Int32} (h : -2147483648 ≤ x.toInt - y.toInt) (h' : x.toInt - y.toInt < 2147483648) : x.toInt64 - y.toInt64 = (x - y).toInt64 := by
  rw [ch_Li, ch_Li, ch_Li, ch_Lsub, ch_subI h h']
theorem ch_lim1 (a : Int32) : (10000 : Int64) < a.toInt64 ↔ 10000 < a := by
  rw [show (10000 : Int64) = (10000 : Int32).toInt64 from by decide]; exact Int32.toInt64_lt
theorem ch_lim2 (a : Int32) : (-10000 : Int64) ≤ a.toInt64 ↔ ¬ a < -10000 := by
  rw [show (-10000 : Int64) = (-10000 : Int32).toInt64 from by decide, Int32.toInt64_le]; exact Int32.not_lt.symm
theorem ch_limB {a : Int32} (h1 : ¬ a < -10000) (h2 : ¬ 10000 < a) : ch_ab 10000 a := by
  rw [Int32.lt_iff_toInt_lt] at h1 h2
  have c1 : (-10000 : Int32).toInt = -10000 := by decide
  have c2 : (10000 : Int32).toInt = 10000 := by decide
  exact ⟨by omega, by omega⟩
theorem ch_dif {x y : Int32} (hx : ch_pr x) (hy : ch_pr y) : (x - y).toInt = x.toInt - y.toInt ∧ ch_ab 100000 (x - y) := by
  have a := hx.1; have b := hx.2; have c := hy.1; have d := hy.2
  have e : (x - y).toInt = x.toInt - y.toInt := ch_subI (by omega) (by omega)
  refine ⟨e, ?_⟩
  unfold ch_ab
  omega
theorem ch_aLmul {x y : Int32} {A B C : Int} (hx : ch_ab A x) (hy : ch_ab B y) (hC : A * B ≤ C) (hC' : C < 9223372036854775808) : ch_aL C (x.toInt64 * y.toInt64) := by
  have a := ch_absmul hx.1 hx.2 hy.1 hy.2
  have e : (x.toInt64 * y.toInt64).toInt = x.toInt * y.toInt := by
    rw [ch_mulL] <;> rw [Int32.toInt_toInt64, Int32.toInt_toInt64] <;> omega
  unfold ch_aL
  rw [e]
  omega
end CHG
