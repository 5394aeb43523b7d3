section CHF
/-! G: the phase; the writers without loops -/
variable {M N R : Nat} {H : Int64} {fd : Int32} {st : Nat → Int32} {ca fu mc : Nat → Int64} {hb ba : Nat → Int32} {bb : Nat → Int64} {ps cu se : Nat → Int32} {wf pa pb : Nat → Int64}
theorem ch_ne1 {a : Nat} (h : a < 2 ^ 31) : ¬ nI a = -1 := by
  intro e
  have := nI_pos (n := a) h
  rw [e] at this
  exact this (by decide)
theorem ch_m1 : (-1 : Int32) < 0 := by decide
theorem ch_m1' : ¬ (0 : Int32) ≤ -1 := by decide
theorem ch_yD0 {post : Int32 → Prop} (hM : M ≤ 8) (hp : post (-1)) : ∀ n j, j + n = M → (∀ i, j ≤ i → i < M → ¬ st i = 1) → wY_defaulting_2 post (nI M) (nI N) (nI R) H st ca fu mc ps hb bb cu se wf pb (n + 1) (nI j) := by
  intro n
  induction n with
  | zero => intro j hj _; exact br_t (nI_le (by omega) (by omega)) hp
  | succ n ih =>
    intro j hj h
    refine br_f (nI_ge (by omega) (by omega)) ⟨vp_in_nI (by omega) (by omega), ?_⟩
    rw [nI_clamp (by omega)]
    exact br_f (h j (by omega) (by omega)) (nm_r (nI_1 j) (ih (j + 1) (by omega) (fun i a b => h i (by omega) b)))
theorem ch_yD1 {post : Int32 → Prop} {d : Nat} (hM : M ≤ 8) (hd : d < M) (h1 : st d = 1) (hp : post (nI d)) : ∀ n j, j + n = d → (∀ i, j ≤ i → i < d → ¬ st i = 1) → wY_defaulting_2 post (nI M) (nI N) (nI R) H st ca fu mc ps hb bb cu se wf pb (n + 1) (nI j) := by
  intro n
  induction n with
  | zero =>
    intro j hj _
    obtain rfl : j = d := by omega
    refine br_f (nI_ge (by omega) (by omega)) ⟨vp_in_nI (by omega) (by omega), ?_⟩
    rw [nI_clamp (by omega)]
    exact br_t h1 hp
  | succ n ih =>
    intro j hj h
    refine br_f (nI_ge (by omega) (by omega)) ⟨vp_in_nI (by omega) (by omega), ?_⟩
    rw [nI_clamp (by omega)]
    exact br_f (h j (by omega) (by omega)) (nm_r (nI_1 j) (ih (j + 1) (by omega) (fun i a b => h i (by omega) b)))
theorem ch_yDn {post : Int32 → Prop} (hM : M ≤ 8) (h : ∀ j, j < M → ¬ st j = 1) (hp : post (-1)) : wpY_defaulting post ((nI M), (nI N), (nI R), H, st, ca, fu, mc, ps, hb, bb, cu, se, wf, pb) := by
  unfold wpY_defaulting
  exact ⟨M + 1, ch_yD0 hM hp M 0 (by omega) (fun i _ b => h i b)⟩
theorem ch_yDs {post : Int32 → Prop} {d : Nat} (hM : M ≤ 8) (hd : d < M) (h1 : st d = 1) (h : ∀ j, j < M → j ≠ d → ¬ st j = 1) (hp : post (nI d)) : wpY_defaulting post ((nI M), (nI N), (nI R), H, st, ca, fu, mc, ps, hb, bb, cu, se, wf, pb) := by
  unfold wpY_defaulting
  exact ⟨d + 1, ch_yD1 hM hd h1 hp d 0 (by omega) (fun i _ b => h i (by omega) (by omega))⟩
theorem ch_amt {v : Int32} {b : Int32} {c : Int} (hb : b.toInt = c) (h0 : ¬ v < 1) (h1 : v ≤ b) : 1 ≤ v.toInt ∧ v.toInt ≤ c := by
  rw [Int32.lt_iff_toInt_lt] at h0
  rw [Int32.le_iff_toInt_le, hb] at h1
  have : (1 : Int32).toInt = 1 := by decide
  omega
theorem ch_aLadd {B C : Int} {x y : Int64} (hx : ch_aL B x) (hy : ch_aL C y) (hB : B + C < 9223372036854775808) : ch_aL (B + C) (x + y) := by
  have a := hx.1; have b := hx.2; have c := hy.1; have d := hy.2
  unfold ch_aL
  rw [ch_addL (by omega) (by omega)]
  omega
theorem ch_aLsub {B C : Int} {x y : Int64} (hx : ch_aL B x) (hy : ch_aL C y) (hB : B + C < 9223372036854775808) : ch_aL (B + C) (x - y) := by
  have a := hx.1; have b := hx.2; have c := hy.1; have d := hy.2
  unfold ch_aL
  rw [ch_subL (by omega) (by omega)]
  omega
theorem ch_aLi {x : Int32} {C : Int} (h : -C ≤ x.toInt ∧ x.toInt ≤ C) : ch_aL C x.toInt64 := by
  unfold ch_aL; rw [Int32.toInt_toInt64]; exact h
theorem ch_CaAdd {k : Nat} {x : Int64} {m : Nat} (hk : k + 5 ≤ 2564) (h : ch_Ca k ca) (hx : ch_aL 20000000000000 x) : ch_Ca (k + 5) (vp_updL ca m (ca m + x)) := by
  intro j
  refine ch_uLAll (P := ch_aL (10000000000000 * ((k + 5 : Nat) : Int))) (fun i => ch_aLM (h i) (by omega)) ?_ j
  exact ch_aLM (ch_aLadd (h m) hx (by omega)) (by omega)
theorem ch_CaSub {k : Nat} {x : Int64} {m : Nat} (hk : k + 5 ≤ 2564) (h : ch_Ca k ca) (hx : ch_aL 20000000000000 x) : ch_Ca (k + 5) (vp_updL ca m (ca m - x)) := by
  intro j
  refine ch_uLAll (P := ch_aL (10000000000000 * ((k + 5 : Nat) : Int))) (fun i => ch_aLM (h i) (by omega)) ?_ j
  exact ch_aLM (ch_aLsub (h m) hx (by omega)) (by omega)
theorem ch_FdAdd {k : Nat} {v : Int32} {m : Nat} (hk : k + 5 ≤ 2564) (h : ch_Fd k fu) (hx : 1 ≤ v.toInt ∧ v.toInt ≤ 1000000) : ch_Fd (k + 5) (vp_updL fu m (fu m + v.toInt64)) := by
  have a := h m
  have b := Int32.toInt_toInt64 v
  have e : (fu m + v.toInt64).toInt = (fu m).toInt + v.toInt64.toInt := ch_addL (by omega) (by omega)
  refine ch_uLAll (P := fun x => 0 ≤ x.toInt ∧ x.toInt ≤ 200000 * ((k + 5 : Nat) : Int)) (fun j => ?_) ?_
  · have := h j; omega
  · show 0 ≤ (fu m + v.toInt64).toInt ∧ (fu m + v.toInt64).toInt ≤ _
    omega
theorem ch_FdSub {k : Nat} {v : Int32} {m : Nat} (hk : k + 5 ≤ 2564) (h : ch_Fd k fu) (hx : 1 ≤ v.toInt ∧ v.toInt ≤ 1000000) (hv : v.toInt64 ≤ fu m) : ch_Fd (k + 5) (vp_updL fu m (fu m - v.toInt64)) := by
  have a := h m
  have b := Int32.toInt_toInt64 v
  have c := Int64.le_iff_toInt_le.mp hv
  have e : (fu m - v.toInt64).toInt = (fu m).toInt - v.toInt64.toInt := ch_subL (by omega) (by omega)
  refine ch_uLAll (P := fun x => 0 ≤ x.toInt ∧ x.toInt ≤ 200000 * ((k + 5 : Nat) : Int)) (fun j => ?_) ?_
  · have := h j; omega
  · show 0 ≤ (fu m - v.toInt64).toInt ∧ (fu m - v.toInt64).toInt ≤ _
    omega
theorem i_vc_deposit {k : Nat} {u : SX} {v : SY} (I : i_Rel k u v) (hk : k + 5 ≤ 2564) (v1 : Int32) (v2 : Int32) (v3 : Int32) : wpX_deposit (fun r u' => wpY_deposit (fun r' v' => r' = r ∧ i_Rel (k + 5) u' v') v v1 v2 v3) u v1 v2 v3 := by
  have J := i_up I
  obtain ⟨M, N, R, H, fd, st, ca, fu, mc, hb, ba, bb, ps, cu, se, wf, pa, pb, rfl, rfl, hc, hp, hi, hf, ha, ho, hr⟩ := I
  have hM := hc.1.2
  unfold wpX_deposit wpX_isMember wpX_isAccount wpX_isAmount wpX_lesser wpY_deposit wY_deposit_21 wY_deposit_83 wpY_validM
  dsimp only
  rcases ch_sort v1 (n := M) (by omega) with h | ⟨h, h'⟩ | ⟨m, hm, rfl, h, h'⟩
  · exact br_t h (br_t rfl (br_t h (br_t rfl ⟨rfl, J⟩)))
  · exact br_f h (br_t h' (br_t rfl (br_f h (br_t h' (br_t rfl ⟨rfl, J⟩)))))
  · have i8 : vp_in (nI m) 8 := vp_in_nI (by omega) (by omega)
    rw [nI_clamp (by omega)]
    refine br_f h (br_f h' (br_f ch_n10 ?_))
    by_cases a0 : v2 = 0
    · subst a0
      refine br_t rfl (br_f ch_n10 ?_)
      by_cases b0 : v3 < 1
      · exact br_t b0 (br_t rfl (br_f h (br_f h' (br_f ch_n10 (br_t rfl (br_t b0 ⟨rfl, J⟩))))))
      · by_cases b1 : v3 ≤ 1000000
        · have am := ch_amt (c := 1000000) (by decide) b0 b1
          refine br_f b0 (br_f (Int32.not_lt.mpr b1) (br_f ch_n10 ⟨i8, ?_⟩))
          by_cases s0 : st m = 0
          · have Q := ch_CaAdd (m := m) hk ha (ch_aLi (x := v3) (C := 20000000000000) (by omega))
            refine br_t s0 (br_f (by decide) ⟨i8, i8, nm_e ⟨i8, i8, ?_⟩⟩)
            by_cases q : v3.toInt64 ≤ mc m
            · exact br_t q ⟨i8, nm_e (br_f h (br_f h' (br_f ch_n10 (br_t rfl (br_f b0 (br_t b1 ⟨i8, br_t s0 (br_t rfl ⟨i8, i8, nm_e ⟨i8, br_t q ⟨i8, i8, nm_e ⟨rfl, ch_mk ⟨hc, hp, hi, ch_FdU hf (by omega), Q, ho, hr⟩⟩⟩⟩⟩)⟩))))))⟩
            · exact br_f q ⟨i8, nm_e (br_f h (br_f h' (br_f ch_n10 (br_t rfl (br_f b0 (br_t b1 ⟨i8, br_t s0 (br_t rfl ⟨i8, i8, nm_e ⟨i8, br_f q ⟨i8, i8, i8, nm_e ⟨rfl, ch_mk ⟨hc, hp, hi, ch_FdU hf (by omega), Q, ho, hr⟩⟩⟩⟩⟩)⟩))))))⟩
          · exact br_f s0 (br_f h (br_f h' (br_f ch_n10 (br_t rfl (br_f b0 (br_t b1 ⟨i8, br_f s0 ⟨rfl, J⟩⟩))))))
        · exact br_f b0 (br_t (Int32.not_le.mp b1) (br_t rfl (br_f h (br_f h' (br_f ch_n10 (br_t rfl (br_f b0 (br_f b1 ⟨rfl, J⟩))))))))
    · by_cases a1 : v2 = 1
      · subst a1
        refine br_f a0 (br_t rfl (br_f ch_n10 ?_))
        by_cases b0 : v3 < 1
        · exact br_t b0 (br_t rfl (br_f h (br_f h' (br_f ch_n10 (br_f a0 (br_t rfl (br_t b0 ⟨rfl, J⟩)))))))
        · by_cases b1 : v3 ≤ 1000000
          · have am := ch_amt (c := 1000000) (by decide) b0 b1
            refine br_f b0 (br_f (Int32.not_lt.mpr b1) (br_f ch_n10 ⟨i8, ?_⟩))
            by_cases s0 : st m = 0
            · exact br_t s0 (br_t rfl ⟨i8, i8, nm_e (br_f h (br_f h' (br_f ch_n10 (br_f a0 (br_t rfl (br_f b0 (br_t b1 ⟨i8, br_t s0 (br_f a0 ⟨i8, i8, nm_e ⟨rfl, ch_mk ⟨hc, hp, hi, ch_FdAdd hk hf am, ch_CaU ha (by omega), ho, hr⟩⟩⟩)⟩)))))))⟩)
            · exact br_f s0 (br_f h (br_f h' (br_f ch_n10 (br_f a0 (br_t rfl (br_f b0 (br_t b1 ⟨i8, br_f s0 ⟨rfl, J⟩⟩)))))))
          · exact br_f b0 (br_t (Int32.not_le.mp b1) (br_t rfl (br_f h (br_f h' (br_f ch_n10 (br_f a0 (br_t rfl (br_f b0 (br_f b1 ⟨rfl, J⟩)))))))))
      · exact br_f a0 (br_f a1 (br_t rfl (br_f h (br_f h' (br_f ch_n10 (br_f a0 (br_f a1 ⟨rfl, J⟩)))))))
theorem ch_PrQ {i : Nat} {v : Int32} (h : ch_Pr cu se) (hv : ch_pr v) : ch_Pr (upd cu i v) se := by
  intro j hj
  refine ⟨?_, (h j hj).2⟩
  by_cases q : j = i
  · rw [q, ch_us]; exact hv
  · rw [ch_un q]; exact (h j hj).1
theorem i_vc_quote {k : Nat} {u : SX} {v : SY} (I : i_Rel k u v) (hk : k + 5 ≤ 2564) (v1 : Int32) (v2 : Int32) : wpX_quote (fun r u' => wpY_quote (fun r' v' => r' = r ∧ i_Rel (k + 5) u' v') v v1 v2) u v1 v2 := by
  have J := i_up I
  obtain ⟨M, N, R, H, fd, st, ca, fu, mc, hb, ba, bb, ps, cu, se, wf, pa, pb, rfl, rfl, hc, hp, hi, hf, ha, ho, hr⟩ := I
  have hN := hc.2.1.2
  unfold wpX_quote wpX_isInstrument wpY_quote wpY_validI
  dsimp only
  rcases ch_sort v1 (n := N) (by omega) with h | ⟨h, h'⟩ | ⟨m, hm, rfl, h, h'⟩
  · exact br_t h (br_t rfl (br_t h (br_t rfl ⟨rfl, J⟩)))
  · exact br_f h (br_t h' (br_t rfl (br_f h (br_t h' (br_t rfl ⟨rfl, J⟩)))))
  · have i4 : vp_in (nI m) 4 := vp_in_nI (by omega) (by omega)
    rw [nI_clamp (by omega)]
    refine br_f h (br_f h' (br_f ch_n10 ?_))
    by_cases b0 : v2 < 1
    · exact br_t b0 (br_f h (br_f h' (br_f ch_n10 (br_t b0 ⟨rfl, J⟩))))
    · by_cases b1 : v2 ≤ 100000
      · have am := ch_amt (c := 100000) (by decide) b0 b1
        exact br_f b0 (br_t b1 ⟨i4, nm_e (br_f h (br_f h' (br_f ch_n10 (br_f b0 (br_t b1 ⟨i4, nm_e ⟨rfl, ch_mk ⟨hc, hp, hi, ch_FdU hf (by omega), ch_CaU ha (by omega), ho, ch_PrQ hr am⟩⟩⟩)))))⟩)
      · exact br_f b0 (br_f b1 (br_f h (br_f h' (br_f ch_n10 (br_f b0 (br_f b1 ⟨rfl, J⟩))))))
theorem ch_v0 : vp_nar .boolean 0 = 0 := by decide
theorem ch_v1 : vp_nar .boolean 1 = 1 := by decide
theorem ch_BiSet {m : Nat} {v : Int32} (hm : m < M) (h : ch_Bi M hb ba bb) (hv : ch_ab 1000000 v) : ch_Bi M (upd hb m 1) (upd ba m v) (vp_updL bb m v.toInt64) := by
  refine ⟨fun j hj => ?_, fun j hj => ?_⟩
  · rw [ch_un (by omega)]; exact h.1 j hj
  · by_cases q : j = m
    · rw [q, ch_us, ch_uLs]; exact ⟨rfl, hv⟩
    · rw [ch_un q, ch_uLn q]; rw [ch_un q] at hj; exact h.2 j hj
theorem i_vc_bid {k : Nat} {u : SX} {v : SY} (I : i_Rel k u v) (hk : k + 5 ≤ 2564) (v1 : Int32) (v2 : Int32) : wpX_bid (fun r u' => wpY_bid (fun r' v' => r' = r ∧ i_Rel (k + 5) u' v') v v1 v2) u v1 v2 := by
  have J := i_up I
  obtain ⟨M, N, R, H, fd, st, ca, fu, mc, hb, ba, bb, ps, cu, se, wf, pa, pb, rfl, rfl, hc, hp, hi, hf, ha, ho, hr⟩ := I
  have hM := hc.1.2
  unfold wpX_bid wpX_isAuction wpX_isMember wpY_bid wpY_validM
  dsimp only
  rcases id hp with ⟨e, hn⟩ | ⟨d, hd, e, h1, hn⟩
  · exact br_t e (br_t rfl (ch_yDn hM hn (br_f ch_m1' ⟨rfl, J⟩)))
  · have z : ¬ fd = -1 := by rw [e]; exact ch_ne1 (by omega)
    have z' : (0 : Int32) ≤ nI d := nI_pos' (by omega)
    have Y : ∀ {post : Int32 → Prop}, post (nI d) → wpY_defaulting post ((nI M), (nI N), (nI R), H, st, ca, fu, mc, ps, hb, bb, cu, se, wf, pb) := fun p => ch_yDs hM hd h1 hn p
    refine br_f z (br_f ch_n10 ?_)
    rcases ch_sort v1 (n := M) (by omega) with h | ⟨h, h'⟩ | ⟨m, hm, rfl, h, h'⟩
    · exact br_t h (br_t rfl (Y (br_t z' (br_t h (br_t rfl ⟨rfl, J⟩)))))
    · exact br_f h (br_t h' (br_t rfl (Y (br_t z' (br_f h (br_t h' (br_t rfl ⟨rfl, J⟩)))))))
    · have i8 : vp_in (nI m) 8 := vp_in_nI (by omega) (by omega)
      rw [nI_clamp (by omega), ch_v1]
      refine br_f h (br_f h' (br_f ch_n10 ⟨i8, ?_⟩))
      by_cases s0 : st m = 0
      · refine br_t s0 ?_
        by_cases b0 : v2 < -1000000
        · exact br_t b0 (Y (br_t z' (br_f h (br_f h' (br_f ch_n10 ⟨i8, br_t s0 (br_t b0 ⟨rfl, J⟩)⟩)))))
        · by_cases b1 : v2 ≤ 1000000
          · have am : ch_ab 1000000 v2 := by
              rw [Int32.lt_iff_toInt_lt] at b0
              rw [Int32.le_iff_toInt_le] at b1
              have c1 : (-1000000 : Int32).toInt = -1000000 := by decide
              have c2 : (1000000 : Int32).toInt = 1000000 := by decide
              exact ⟨by omega, by omega⟩
            exact br_f b0 (br_t b1 ⟨i8, nm_e ⟨i8, nm_e (Y (br_t z' (br_f h (br_f h' (br_f ch_n10 ⟨i8, br_t s0 (br_f b0 (br_t b1 ⟨i8, nm_e ⟨i8, nm_e ⟨rfl, ch_mk ⟨hc, hp, ch_BiSet hm hi am, ch_FdU hf (by omega), ch_CaU ha (by omega), ho, hr⟩⟩⟩⟩))⟩)))))⟩⟩)
          · exact br_f b0 (br_f b1 (Y (br_t z' (br_f h (br_f h' (br_f ch_n10 ⟨i8, br_t s0 (br_f b0 (br_f b1 ⟨rfl, J⟩))⟩))))))
      · exact br_f s0 (Y (br_t z' (br_f h (br_f h' (br_f ch_n10 ⟨i8, br_f s0 ⟨rfl, J⟩⟩)))))
end CHF
