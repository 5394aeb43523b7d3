section CHF
/-! G: the phase; the writers without loops -/
variable {M N R : Nat} {H : Int64} {fd : Int32} {st : Nat → Int32} {ca fu mc : Nat → Int64} {hb ba : Nat → Int32} {bb : Nat → Int64} {ps cu se : Nat → Int32} {wf pa pb : Nat → Int64}
theorem ch_ne1 {a : Nat} (h : a < 2 ^ 31) : ¬ nI a = -1 := by
  intro e
  have := nI_pos (n := a) h
  rw [e] at this
  exact this (by decide)
theorem ch_m1 : (-1 : Int32) < 0 := by decide
theorem ch_m1' : ¬ (0 : Int32) ≤ -1 := by decide
theorem ch_amt {v : Int32} {b : Int32} {c : Int} (hb : b.toInt = c) (h0 : ¬ v < 1) (h1 : v ≤ b) : 1 ≤ v.toInt ∧ v.toInt ≤ c := by
  rw [Int32.lt_iff_toInt_lt] at h0
  rw [Int32.le_iff_toInt_le, hb] at h1
  have : (1 : Int32).toInt = 1 := by decide
  omega
theorem ch_aLadd {B C : Int} {x y : Int64} (hx : ch_aL B x) (hy : ch_aL C y) (hB : B + C < 9223372036854775808) : ch_aL (B + C) (x + y) := by
  have a := hx.1; have b := hx.2; have c := hy.1; have d := hy.2
  unfold ch_aL
  rw [ch_addL (by omega) (by omega)]
  omega
theorem ch_aLsub {B C : Int} {x y : Int64} (hx : ch_aL B x) (hy : ch_aL C y) (hB : B + C < 9223372036854775808) : ch_aL (B + C) (x - y) := by
  have a := hx.1; have b := hx.2; have c := hy.1; have d := hy.2
  unfold ch_aL
  rw [ch_subL (by omega) (by omega)]
  omega
theorem ch_aLi {x : Int32} {C : Int} (h : -C ≤ x.toInt ∧ x.toInt ≤ C) : ch_aL C x.toInt64 := by
  unfold ch_aL; rw [Int32.toInt_toInt64]; exact h
theorem ch_CaAdd {k : Nat} {x : Int64} {m : Nat} (hk : k + 5 ≤ 2564) (h : ch_Ca k ca) (hx : ch_aL 20000000000000 x) : ch_Ca (k + 5) (vp_updL ca m (ca m + x)) := by
  intro j
  refine ch_uLAll (P := ch_aL (10000000000000 * ((k + 5 : Nat) : Int))) (fun i => ch_aLM (h i) (by omega)) ?_ j
  exact ch_aLM (ch_aLadd (h m) hx (by omega)) (by omega)
theorem ch_CaSub {k : Nat} {x : Int64} {m : Nat} (hk : k + 5 ≤ 2564) (h : ch_Ca k ca) (hx : ch_aL 20000000000000 x) : ch_Ca (k + 5) (vp_updL ca m (ca m - x)) := by
  intro j
  refine ch_uLAll (P := ch_aL (10000000000000 * ((k + 5 : Nat) : Int))) (fun i => ch_aLM (h i) (by omega)) ?_ j
  exact ch_aLM (ch_aLsub (h m) hx (by omega)) (by omega)
theorem ch_FdAdd {k : Nat} {v : Int32} {m : Nat} (hk : k + 5 ≤ 2564) (h : ch_Fd k fu) (hx : 1 ≤ v.toInt ∧ v.toInt ≤ 1000000) : ch_Fd (k + 5) (vp_updL fu m (fu m + v.toInt64)) := by
  have a := h m
  have b := Int32.toInt_toInt64 v
  have e : (fu m + v.toInt64).toInt = (fu m).toInt + v.toInt64.toInt := ch_addL (by omega) (by omega)
  refine ch_uLAll (P := fun x => 0 ≤ x.toInt ∧ x.toInt ≤ 200000 * ((k + 5 : Nat) : Int)) (fun j => ?_) ?_
  · have := h j; omega
  · show 0 ≤ (fu m + v.toInt64).toInt ∧ (fu m + v.toInt64).toInt ≤ _
    omega
theorem ch_FdSub {k : Nat} {v : Int32} {m : Nat} (hk : k + 5 ≤ 2564) (h : ch_Fd k fu) (hx : 1 ≤ v.toInt ∧ v.toInt ≤ 1000000) (hv : v.toInt64 ≤ fu m) : ch_Fd (k + 5) (vp_updL fu m (fu m - v.toInt64)) := by
  have a := h m
  have b := Int32.toInt_toInt64 v
  have c := Int64.le_iff_toInt_le.mp hv
  have e : (fu m - v.toInt64).toInt = (fu m).toInt - v.toInt64.toInt := ch_subL (by omega) (by omega)
  refine ch_uLAll (P := fun x => 0 ≤ x.toInt ∧ x.toInt ≤ 200000 * ((k + 5 : Nat) : Int)) (fun j => ?_) ?_
  · have := h j; omega
  · show 0 ≤ (fu m - v.toInt64).toInt ∧ (fu m - v.toInt64).toInt ≤ _
    omega
theorem ch_PrQ {i : Nat} {v : Int32} (h : ch_Pr cu se) (hv : ch_pr v) : ch_Pr (upd cu i v) se := by
  intro j hj
  refine ⟨?_, (h j hj).2⟩
  by_cases q : j = i
  · rw [q, ch_us]; exact hv
  · rw [ch_un q]; exact (h j hj).1
theorem ch_v0 : vp_nar .boolean 0 = 0 := by decide
theorem ch_v1 : vp_nar .boolean 1 = 1 := by decide
end CHF
