section CHG
/-! H: getMargin, withdraw, trade -/
theorem i_vc_getMargin {k : Nat} {u : SX} {v : SY} (I : i_Rel k u v) (hk : k + 5 ≤ 2564) (v1 : Int32) (v2 : Int32) : wpX_getMargin (fun r => wpY_getMargin (fun r' => r' = r ∧ i_Rel (k + 5) u v) v v1 v2) u v1 v2 := by
  have J := i_up I
  obtain ⟨M, N, R, H, fd, st, ca, fu, mc, hb, ba, bb, ps, cu, se, wf, pa, pb, rfl, rfl, hc, hp, hi, hf, ha, ho, hr⟩ := I
  have hM := hc.1.2
  unfold wpX_getMargin wpX_isMember wpY_getMargin wpY_validM
  dsimp only
  rcases ch_sort v1 (n := M) (by omega) with h | ⟨h, h'⟩ | ⟨m, hm, rfl, h, h'⟩
  · exact br_t h (br_t rfl (br_t h (br_t rfl ⟨rfl, J⟩)))
  · exact br_f h (br_t h' (br_t rfl (br_f h (br_t h' (br_t rfl ⟨rfl, J⟩)))))
  · have i8 : vp_in (nI m) 8 := vp_in_nI (by omega) (by omega)
    refine br_f h (br_f h' (br_f ch_n10 ?_))
    by_cases a0 : v2 = 0
    · exact br_t a0 (ch_xIM (by omega) hc.2.1.2 hc.2.2 hr (br_f h (br_f h' (br_f ch_n10 (br_t a0 (ch_yIM (by omega) hc.2.1 hc.2.2 hr ⟨rfl, J⟩))))))
    · by_cases a1 : v2 = 1
      · exact br_f a0 (br_t a1 ⟨i8, br_f h (br_f h' (br_f ch_n10 (br_f a0 (br_t a1 ⟨i8, rfl, J⟩))))⟩)
      · exact br_f a0 (br_f a1 (br_f h (br_f h' (br_f ch_n10 (br_f a0 (br_f a1 ⟨rfl, J⟩))))))
theorem i_vc_withdraw {k : Nat} {u : SX} {v : SY} (I : i_Rel k u v) (hk : k + 5 ≤ 2564) (v1 : Int32) (v2 : Int32) (v3 : Int32) : wpX_withdraw (fun r u' => wpY_withdraw (fun r' v' => r' = r ∧ i_Rel (k + 5) u' v') v v1 v2 v3) u v1 v2 v3 := by
  have J := i_up I
  obtain ⟨M, N, R, H, fd, st, ca, fu, mc, hb, ba, bb, ps, cu, se, wf, pa, pb, rfl, rfl, hc, hp, hi, hf, ha, ho, hr⟩ := I
  have hM := hc.1.2
  unfold wpX_withdraw wpX_isMember wpX_isAccount wpX_isAmount wpX_isAuction wpY_withdraw wY_withdraw_21 wpY_validM
  dsimp only
  rcases ch_sort v1 (n := M) (by omega) with h | ⟨h, h'⟩ | ⟨m, hm, rfl, h, h'⟩
  · exact br_t h (br_t rfl (br_t h (br_t rfl ⟨rfl, J⟩)))
  · exact br_f h (br_t h' (br_t rfl (br_f h (br_t h' (br_t rfl ⟨rfl, J⟩)))))
  · have i8 : vp_in (nI m) 8 := vp_in_nI (by omega) (by omega)
    rw [nI_clamp (by omega)]
    refine br_f h (br_f h' (br_f ch_n10 ?_))
    by_cases a0 : v2 = 0
    · subst a0
      refine br_t rfl (br_f ch_n10 ?_)
      by_cases b0 : v3 < 1
      · exact br_t b0 (br_t rfl (br_f h (br_f h' (br_f ch_n10 (br_t rfl (br_t b0 ⟨rfl, J⟩))))))
      · by_cases b1 : v3 ≤ 1000000
        · have am := ch_amt (c := 1000000) (by decide) b0 b1
          refine br_f b0 (br_f (Int32.not_lt.mpr b1) (br_f ch_n10 ?_))
          rcases id hp with ⟨e, hn⟩ | ⟨d, hd, e, h1, hn⟩
          · refine br_t e (br_t rfl (br_f (by decide) ⟨i8, ?_⟩))
            by_cases c0 : mc m = 0
            · refine br_t c0 ⟨i8, ch_xIM (by omega) hc.2.1.2 hc.2.2 hr ?_⟩
              by_cases q : ch_L (ch_im (ch_p ps se R m) N) ≤ ca m - v3.toInt64
              · exact br_t q ⟨i8, i8, nm_e (br_f h (br_f h' (br_f ch_n10 (br_t rfl (br_f b0 (br_t b1 (ch_yDn hM hn (br_t ch_m1 (br_t rfl ⟨i8, br_t c0 ⟨i8, ch_yIM (by omega) hc.2.1 hc.2.2 hr (br_t q ⟨i8, i8, nm_e ⟨rfl, ch_mk ⟨hc, hp, hi, ch_FdU hf (by omega), ch_CaSub hk ha (ch_aLi (x := v3) (C := 20000000000000) (by omega)), ho, hr⟩⟩⟩)⟩⟩)))))))))⟩
              · exact br_f q (br_f h (br_f h' (br_f ch_n10 (br_t rfl (br_f b0 (br_t b1 (ch_yDn hM hn (br_t ch_m1 (br_t rfl ⟨i8, br_t c0 ⟨i8, ch_yIM (by omega) hc.2.1 hc.2.2 hr (br_f q ⟨rfl, J⟩)⟩⟩)))))))))
            · exact br_f c0 (br_f h (br_f h' (br_f ch_n10 (br_t rfl (br_f b0 (br_t b1 (ch_yDn hM hn (br_t ch_m1 (br_t rfl ⟨i8, br_f c0 ⟨rfl, J⟩⟩)))))))))
          · have z : ¬ fd = -1 := by rw [e]; exact ch_ne1 (by omega)
            exact br_f z (br_f ch_n10 (br_f h (br_f h' (br_f ch_n10 (br_t rfl (br_f b0 (br_t b1 (ch_yDs hM hd h1 hn (br_f (nI_pos (by omega)) (⟨rfl, J⟩))))))))))
        · exact br_f b0 (br_t (Int32.not_le.mp b1) (br_t rfl (br_f h (br_f h' (br_f ch_n10 (br_t rfl (br_f b0 (br_f b1 ⟨rfl, J⟩))))))))
    · by_cases a1 : v2 = 1
      · subst a1
        refine br_f a0 (br_t rfl (br_f ch_n10 ?_))
        by_cases b0 : v3 < 1
        · exact br_t b0 (br_t rfl (br_f h (br_f h' (br_f ch_n10 (br_f a0 (br_t rfl (br_t b0 ⟨rfl, J⟩)))))))
        · by_cases b1 : v3 ≤ 1000000
          · have am := ch_amt (c := 1000000) (by decide) b0 b1
            refine br_f b0 (br_f (Int32.not_lt.mpr b1) (br_f ch_n10 ?_))
            rcases id hp with ⟨e, hn⟩ | ⟨d, hd, e, h1, hn⟩
            · refine br_t e (br_t rfl (br_t rfl ⟨i8, ?_⟩))
              by_cases q : v3.toInt64 ≤ fu m
              · exact br_t q ⟨i8, i8, nm_e (br_f h (br_f h' (br_f ch_n10 (br_f a0 (br_t rfl (br_f b0 (br_t b1 (ch_yDn hM hn (br_t ch_m1 (br_f a0 ⟨i8, br_t q ⟨i8, i8, nm_e ⟨rfl, ch_mk ⟨hc, hp, hi, ch_FdSub hk hf am q, ch_CaU ha (by omega), ho, hr⟩⟩⟩⟩))))))))))⟩
              · exact br_f q (br_f h (br_f h' (br_f ch_n10 (br_f a0 (br_t rfl (br_f b0 (br_t b1 (ch_yDn hM hn (br_t ch_m1 (br_f a0 ⟨i8, br_f q ⟨rfl, J⟩⟩))))))))))
            · have z : ¬ fd = -1 := by rw [e]; exact ch_ne1 (by omega)
              exact br_f z (br_f ch_n10 (br_f h (br_f h' (br_f ch_n10 (br_f a0 (br_t rfl (br_f b0 (br_t b1 (ch_yDs hM hd h1 hn (br_f (nI_pos (by omega)) (⟨rfl, J⟩)))))))))))
          · exact br_f b0 (br_t (Int32.not_le.mp b1) (br_t rfl (br_f h (br_f h' (br_f ch_n10 (br_f a0 (br_t rfl (br_f b0 (br_f b1 ⟨rfl, J⟩)))))))))
      · exact br_f a0 (br_f a1 (br_t rfl (br_f h (br_f h' (br_f ch_n10 (br_f a0 (br_f a1 ⟨rfl, J⟩)))))))
theorem ch_PoU {M : Nat} {st ps : Nat → Int32} {s : Nat} {x : Int32} (hM : M ≤ 8) (h : ch_Po M st ps) (hx : ch_ab 10000 x) : ch_Po M st (upd ps s x) := by
  have b := ch_pbB (st := st) hM
  exact ch_uAll (P := ch_ab (ch_pb st M)) h (ch_abM hx b.1)
theorem ch_wadd {x y : Int32} (h : -2147483648 ≤ x.toInt + y.toInt) (h' : x.toInt + y.toInt < 2147483648) : x.toInt64 + y.toInt64 = (x + y).toInt64 := by
  rw [ch_Li, ch_Li, ch_Li, ch_Ladd, ch_addI h h']
theorem ch_wsub {x y : Int32} (h : -2147483648 ≤ x.toInt - y.toInt) (h' : x.toInt - y.toInt < 2147483648) : x.toInt64 - y.toInt64 = (x - y).toInt64 := by
  rw [ch_Li, ch_Li, ch_Li, ch_Lsub, ch_subI h h']
theorem ch_lim1 (a : Int32) : (10000 : Int64) < a.toInt64 ↔ 10000 < a := by
  rw [show (10000 : Int64) = (10000 : Int32).toInt64 from by decide]; exact Int32.toInt64_lt
theorem ch_lim2 (a : Int32) : (-10000 : Int64) ≤ a.toInt64 ↔ ¬ a < -10000 := by
  rw [show (-10000 : Int64) = (-10000 : Int32).toInt64 from by decide, Int32.toInt64_le]; exact Int32.not_lt.symm
theorem ch_limB {a : Int32} (h1 : ¬ a < -10000) (h2 : ¬ 10000 < a) : ch_ab 10000 a := by
  rw [Int32.lt_iff_toInt_lt] at h1 h2
  have c1 : (-10000 : Int32).toInt = -10000 := by decide
  have c2 : (10000 : Int32).toInt = 10000 := by decide
  exact ⟨by omega, by omega⟩
theorem ch_dif {x y : Int32} (hx : ch_pr x) (hy : ch_pr y) : (x - y).toInt = x.toInt - y.toInt ∧ ch_ab 100000 (x - y) := by
  have a := hx.1; have b := hx.2; have c := hy.1; have d := hy.2
  have e : (x - y).toInt = x.toInt - y.toInt := ch_subI (by omega) (by omega)
  refine ⟨e, ?_⟩
  unfold ch_ab
  omega
theorem ch_aLmul {x y : Int32} {A B C : Int} (hx : ch_ab A x) (hy : ch_ab B y) (hC : A * B ≤ C) (hC' : C < 9223372036854775808) : ch_aL C (x.toInt64 * y.toInt64) := by
  have a := ch_absmul hx.1 hx.2 hy.1 hy.2
  have e : (x.toInt64 * y.toInt64).toInt = x.toInt * y.toInt := by
    rw [ch_mulL] <;> rw [Int32.toInt_toInt64, Int32.toInt_toInt64] <;> omega
  unfold ch_aL
  rw [e]
  omega
theorem ch_trade {k : Nat} {u : SX} {v : SY} (I : i_Rel k u v) (hk : k + 5 ≤ 2564) (v1 : Int32) (v2 : Int32) (v3 : Int32) (v4 : Int32) :
    ∃ (r : Int32) (u' : SX) (v' : SY), i_Rel (k + 5) u' v' ∧ (∀ post : Int32 → SX → Prop, post r u' → wpX_trade post u v1 v2 v3 v4) ∧ (∀ post : Int32 → SY → Prop, post r v' → wpY_trade post v v1 v2 v3 v4) := by
  have J := i_up I
  obtain ⟨M, N, R, H, fd, st, ca, fu, mc, hb, ba, bb, ps, cu, se, wf, pa, pb, rfl, rfl, hc, hp, hi, hf, ha, ho, hr⟩ := I
  have hM := hc.1.2
  have hN := hc.2.1.2
  rcases id hp with ⟨e, hn⟩ | ⟨d, hd, e, h1, hn⟩
  case inr =>
    have z : ¬ fd = -1 := by rw [e]; exact ch_ne1 (by omega)
    exact ⟨0, _, _, J, fun post hp => br_f z (br_f ch_n10 hp), fun post hp => (ch_yDs hM hd h1 hn (br_f (nI_pos (by omega)) (hp)))⟩
  rcases ch_sort v1 (n := M) (by omega) with h | ⟨h, h'⟩ | ⟨b, hb', rfl, h, h'⟩
  · exact ⟨0, _, _, J, fun post hp => (br_t e (br_t rfl (br_t h (br_t rfl hp)))), fun post hp => (ch_yDn hM hn (br_t ch_m1 (br_t h (br_t rfl hp))))⟩
  · exact ⟨0, _, _, J, fun post hp => (br_t e (br_t rfl (br_f h (br_t h' (br_t rfl hp))))), fun post hp => (ch_yDn hM hn (br_t ch_m1 (br_f h (br_t h' (br_t rfl hp)))))⟩
  rcases ch_sort v2 (n := M) (by omega) with g | ⟨g, g'⟩ | ⟨s, hs', rfl, g, g'⟩
  · exact ⟨0, _, _, J, fun post hp => (br_t e (br_t rfl ((br_f h (br_f h' (br_f ch_n10 (br_t g (br_t rfl hp)))))))), fun post hp => (ch_yDn hM hn (br_t ch_m1 ((br_f h (br_f h' (br_f ch_n10 (br_t g (br_t rfl hp))))))))⟩
  · exact ⟨0, _, _, J, fun post hp => (br_t e (br_t rfl ((br_f h (br_f h' (br_f ch_n10 (br_f g (br_t g' (br_t rfl hp))))))))), fun post hp => (ch_yDn hM hn (br_t ch_m1 ((br_f h (br_f h' (br_f ch_n10 (br_f g (br_t g' (br_t rfl hp)))))))))⟩
  have b8 : vp_in (nI b) 8 := vp_in_nI (by omega) (by omega)
  have s8 : vp_in (nI s) 8 := vp_in_nI (by omega) (by omega)
  have cb : (nI b).toNatClampNeg = b := nI_clamp (by omega)
  have cs : (nI s).toNatClampNeg = s := nI_clamp (by omega)
  by_cases ne : nI b = nI s
  · exact ⟨0, _, _, J, fun post hp => (br_t e (br_t rfl ((br_f h (br_f h' (br_f ch_n10 ((br_f g (br_f g' (br_f ch_n10 (br_t ne hp))))))))))), fun post hp => (ch_yDn hM hn (br_t ch_m1 ((br_f h (br_f h' (br_f ch_n10 ((br_f g (br_f g' (br_f ch_n10 (br_t ne hp)))))))))))⟩
  have ne' : b ≠ s := fun z => ne (by rw [z])
  by_cases sb : st (nI b).toNatClampNeg = 0
  case neg => exact ⟨0, _, _, J, fun post hp => (br_t e (br_t rfl ((br_f h (br_f h' (br_f ch_n10 ((br_f g (br_f g' (br_f ch_n10 (br_f ne ⟨b8, br_f sb hp⟩))))))))))), fun post hp => (ch_yDn hM hn (br_t ch_m1 ((br_f h (br_f h' (br_f ch_n10 ((br_f g (br_f g' (br_f ch_n10 (br_f ne ⟨b8, br_f sb hp⟩)))))))))))⟩
  by_cases ss : st (nI s).toNatClampNeg = 0
  case neg => exact ⟨0, _, _, J, fun post hp => (br_t e (br_t rfl ((br_f h (br_f h' (br_f ch_n10 ((br_f g (br_f g' (br_f ch_n10 (br_f ne ⟨b8, br_t sb ⟨s8, br_f ss hp⟩⟩))))))))))), fun post hp => (ch_yDn hM hn (br_t ch_m1 ((br_f h (br_f h' (br_f ch_n10 ((br_f g (br_f g' (br_f ch_n10 (br_f ne ⟨b8, br_t sb ⟨s8, br_f ss hp⟩⟩)))))))))))⟩
  rcases ch_sort v3 (n := N) (by omega) with f | ⟨f, f'⟩ | ⟨i, hi', rfl, f, f'⟩
  · exact ⟨0, _, _, J, fun post hp => (br_t e (br_t rfl ((br_f h (br_f h' (br_f ch_n10 ((br_f g (br_f g' (br_f ch_n10 ((br_f ne ⟨b8, br_t sb ⟨s8, br_t ss (br_t f (br_t rfl hp))⟩⟩)))))))))))), fun post hp => (ch_yDn hM hn (br_t ch_m1 ((br_f h (br_f h' (br_f ch_n10 ((br_f g (br_f g' (br_f ch_n10 ((br_f ne ⟨b8, br_t sb ⟨s8, br_t ss (br_t f (br_t rfl hp))⟩⟩))))))))))))⟩
  · exact ⟨0, _, _, J, fun post hp => (br_t e (br_t rfl ((br_f h (br_f h' (br_f ch_n10 ((br_f g (br_f g' (br_f ch_n10 ((br_f ne ⟨b8, br_t sb ⟨s8, br_t ss (br_f f (br_t f' (br_t rfl hp)))⟩⟩)))))))))))), fun post hp => (ch_yDn hM hn (br_t ch_m1 ((br_f h (br_f h' (br_f ch_n10 ((br_f g (br_f g' (br_f ch_n10 ((br_f ne ⟨b8, br_t sb ⟨s8, br_t ss (br_f f (br_t f' (br_t rfl hp)))⟩⟩))))))))))))⟩
  have i4 : vp_in (nI i) 4 := vp_in_nI (by omega) (by omega)
  have ci : (nI i).toNatClampNeg = i := nI_clamp (by omega)
  have tb : vp_in (nI b * 4 + nI i) 32 := by rw [ch_slot]; exact vp_in_nI (by omega) (by omega)
  have ts : vp_in (nI s * 4 + nI i) 32 := by rw [ch_slot]; exact vp_in_nI (by omega) (by omega)
  have cB : (nI b * 4 + nI i).toNatClampNeg = b * 4 + i := by rw [ch_slot]; exact nI_clamp (by omega)
  have cS : (nI s * 4 + nI i).toNatClampNeg = s * 4 + i := by rw [ch_slot]; exact nI_clamp (by omega)
  by_cases q0 : v4 < 1
  · exact ⟨0, _, _, J, fun post hp => (br_t e (br_t rfl ((br_f h (br_f h' (br_f ch_n10 ((br_f g (br_f g' (br_f ch_n10 ((br_f ne ⟨b8, br_t sb ⟨s8, br_t ss ((br_f f (br_f f' (br_f ch_n10 (br_t q0 hp)))))⟩⟩)))))))))))), fun post hp => (ch_yDn hM hn (br_t ch_m1 ((br_f h (br_f h' (br_f ch_n10 ((br_f g (br_f g' (br_f ch_n10 ((br_f ne ⟨b8, br_t sb ⟨s8, br_t ss ((br_f f (br_f f' (br_f ch_n10 (br_t q0 hp)))))⟩⟩))))))))))))⟩
  by_cases q1 : v4 ≤ 1000
  case neg => exact ⟨0, _, _, J, fun post hp => (br_t e (br_t rfl ((br_f h (br_f h' (br_f ch_n10 ((br_f g (br_f g' (br_f ch_n10 ((br_f ne ⟨b8, br_t sb ⟨s8, br_t ss ((br_f f (br_f f' (br_f ch_n10 (br_f q0 (br_f q1 hp))))))⟩⟩)))))))))))), fun post hp => (ch_yDn hM hn (br_t ch_m1 ((br_f h (br_f h' (br_f ch_n10 ((br_f g (br_f g' (br_f ch_n10 ((br_f ne ⟨b8, br_t sb ⟨s8, br_t ss ((br_f f (br_f f' (br_f ch_n10 (br_f q0 (br_f q1 hp))))))⟩⟩))))))))))))⟩
  have am := ch_amt (c := 1000) (by decide) q0 q1
  have pbB := ch_pbB (st := st) hM
  have ob := ho (b * 4 + i)
  have os := ho (s * 4 + i)
  unfold ch_ab at ob os
  have wA : (ps (nI b * 4 + nI i).toNatClampNeg).toInt64 + v4.toInt64 = (ps (b * 4 + i) + v4).toInt64 := by rw [cB]; exact ch_wadd (by omega) (by omega)
  have wB : (ps (nI s * 4 + nI i).toNatClampNeg).toInt64 - v4.toInt64 = (ps (s * 4 + i) - v4).toInt64 := by rw [cS]; exact ch_wsub (by omega) (by omega)
  have xA : ps (nI b * 4 + nI i).toNatClampNeg + v4 = ps (b * 4 + i) + v4 := by rw [cB]
  have xB : ps (nI s * 4 + nI i).toNatClampNeg - v4 = ps (s * 4 + i) - v4 := by rw [cS]
  generalize ps (b * 4 + i) + v4 = A at wA xA
  generalize ps (s * 4 + i) - v4 = B at wB xB
  by_cases a1 : A < -10000
  · have a2 : ¬ (10000 : Int64) < A.toInt64 := by
      rw [ch_lim1]
      intro z
      exact Int32.lt_irrefl (Int32.lt_trans a1 (Int32.lt_trans (by decide : (-10000 : Int32) < 10000) z))
    exact ⟨0, _, _, J, fun post hp => (br_t e (br_t rfl ((br_f h (br_f h' (br_f ch_n10 ((br_f g (br_f g' (br_f ch_n10 ((br_f ne ⟨b8, br_t sb ⟨s8, br_t ss ((br_f f (br_f f' (br_f ch_n10 ((br_f q0 (br_t q1 (⟨tb, nm_r xA ⟨ts, nm_r xB (br_t a1 (br_t rfl hp))⟩⟩))))))))⟩⟩)))))))))))),
      fun post hp => (ch_yDn hM hn (br_t ch_m1 ((br_f h (br_f h' (br_f ch_n10 ((br_f g (br_f g' (br_f ch_n10 ((br_f ne ⟨b8, br_t sb ⟨s8, br_t ss ((br_f f (br_f f' (br_f ch_n10 ((br_f q0 (br_t q1 (⟨tb, nm_r wA ⟨ts, nm_r wB (br_f a2 (br_f (fun z => (ch_lim2 A).mp z a1) hp))⟩⟩))))))))⟩⟩))))))))))))⟩
  by_cases a2 : 10000 < A
  · exact ⟨0, _, _, J, fun post hp => (br_t e (br_t rfl ((br_f h (br_f h' (br_f ch_n10 ((br_f g (br_f g' (br_f ch_n10 ((br_f ne ⟨b8, br_t sb ⟨s8, br_t ss ((br_f f (br_f f' (br_f ch_n10 ((br_f q0 (br_t q1 (⟨tb, nm_r xA ⟨ts, nm_r xB (br_f a1 (br_t a2 (br_t rfl hp)))⟩⟩))))))))⟩⟩)))))))))))),
      fun post hp => (ch_yDn hM hn (br_t ch_m1 ((br_f h (br_f h' (br_f ch_n10 ((br_f g (br_f g' (br_f ch_n10 ((br_f ne ⟨b8, br_t sb ⟨s8, br_t ss ((br_f f (br_f f' (br_f ch_n10 ((br_f q0 (br_t q1 (⟨tb, nm_r wA ⟨ts, nm_r wB (br_t ((ch_lim1 A).mpr a2) hp)⟩⟩))))))))⟩⟩))))))))))))⟩
  have A1 : (-10000 : Int64) ≤ A.toInt64 := (ch_lim2 A).mpr a1
  have A2 : ¬ (10000 : Int64) < A.toInt64 := fun z => a2 ((ch_lim1 A).mp z)
  by_cases c1 : B < -10000
  · have c2 : ¬ (10000 : Int64) < B.toInt64 := by
      rw [ch_lim1]
      intro z
      exact Int32.lt_irrefl (Int32.lt_trans c1 (Int32.lt_trans (by decide : (-10000 : Int32) < 10000) z))
    exact ⟨0, _, _, J, fun post hp => (br_t e (br_t rfl ((br_f h (br_f h' (br_f ch_n10 ((br_f g (br_f g' (br_f ch_n10 ((br_f ne ⟨b8, br_t sb ⟨s8, br_t ss ((br_f f (br_f f' (br_f ch_n10 ((br_f q0 (br_t q1 (⟨tb, nm_r xA ⟨ts, nm_r xB (br_f a1 (br_f a2 (br_f ch_n10 (br_t c1 (br_t rfl hp)))))⟩⟩))))))))⟩⟩)))))))))))),
      fun post hp => (ch_yDn hM hn (br_t ch_m1 ((br_f h (br_f h' (br_f ch_n10 ((br_f g (br_f g' (br_f ch_n10 ((br_f ne ⟨b8, br_t sb ⟨s8, br_t ss ((br_f f (br_f f' (br_f ch_n10 ((br_f q0 (br_t q1 (⟨tb, nm_r wA ⟨ts, nm_r wB (br_f A2 (br_t A1 (br_f c2 (br_f (fun z => (ch_lim2 B).mp z c1) hp))))⟩⟩))))))))⟩⟩))))))))))))⟩
  by_cases c2 : 10000 < B
  · exact ⟨0, _, _, J, fun post hp => (br_t e (br_t rfl ((br_f h (br_f h' (br_f ch_n10 ((br_f g (br_f g' (br_f ch_n10 ((br_f ne ⟨b8, br_t sb ⟨s8, br_t ss ((br_f f (br_f f' (br_f ch_n10 ((br_f q0 (br_t q1 (⟨tb, nm_r xA ⟨ts, nm_r xB (br_f a1 (br_f a2 (br_f ch_n10 (br_f c1 (br_t c2 (br_t rfl hp))))))⟩⟩))))))))⟩⟩)))))))))))),
      fun post hp => (ch_yDn hM hn (br_t ch_m1 ((br_f h (br_f h' (br_f ch_n10 ((br_f g (br_f g' (br_f ch_n10 ((br_f ne ⟨b8, br_t sb ⟨s8, br_t ss ((br_f f (br_f f' (br_f ch_n10 ((br_f q0 (br_t q1 (⟨tb, nm_r wA ⟨ts, nm_r wB (br_f A2 (br_t A1 (br_t ((ch_lim1 B).mpr c2) hp)))⟩⟩))))))))⟩⟩))))))))))))⟩
  have B1 : (-10000 : Int64) ≤ B.toInt64 := (ch_lim2 B).mpr c1
  have B2 : ¬ (10000 : Int64) < B.toInt64 := fun z => c2 ((ch_lim1 B).mp z)
  have dd := ch_dif (hr i (by omega)).2 (hr i (by omega)).1
  have D : ch_aL 100000000 (v4.toInt64 * (se i - cu i).toInt64) := ch_aLmul (A := 1000) (B := 100000) ⟨by omega, by omega⟩ dd.2 (by omega) (by omega)
  have Q : ch_Ca (k + 5) (vp_updL (vp_updL ca b (ca b + v4.toInt64 * (se i - cu i).toInt64)) s (vp_updL ca b (ca b + v4.toInt64 * (se i - cu i).toInt64) s - v4.toInt64 * (se i - cu i).toInt64)) := by
    rw [ch_uLn (fun z => ne' z.symm)]
    intro j
    refine ch_uLAll (P := ch_aL (10000000000000 * ((k + 5 : Nat) : Int))) (ch_uLAll (P := ch_aL (10000000000000 * ((k + 5 : Nat) : Int))) (fun i => ch_aLM (ha i) (by omega)) ?_) ?_ j
    · exact ch_aLM (ch_aLadd (ha b) D (by omega)) (by omega)
    · exact ch_aLM (ch_aLsub (ha s) D (by omega)) (by omega)
  have F := ch_mk (H := H) (mc := mc) (wf := wf) (pa := pa) (pb := pb) (k := k + 5) ⟨hc, hp, hi, ch_FdU hf (by omega), Q, ch_PoU hM (ch_PoU (s := b * 4 + i) hM ho (ch_limB a1 a2)) (s := s * 4 + i) (ch_limB c1 c2), hr⟩
  have u1 : upd ps (nI b * 4 + nI i).toNatClampNeg A = upd ps (b * 4 + i) A := by rw [cB]
  have u2 : upd (upd ps (b * 4 + i) A) (nI s * 4 + nI i).toNatClampNeg B = upd (upd ps (b * 4 + i) A) (s * 4 + i) B := by rw [cS]
  have w1 : upd ps (nI b * 4 + nI i).toNatClampNeg A.toInt64.toInt32 = upd ps (b * 4 + i) A := by rw [cB, Int32.toInt32_toInt64]
  have w2 : upd (upd ps (b * 4 + i) A) (nI s * 4 + nI i).toNatClampNeg B.toInt64.toInt32 = upd (upd ps (b * 4 + i) A) (s * 4 + i) B := by rw [cS, Int32.toInt32_toInt64]
  have d1 : v4.toInt64 * (se (nI i).toNatClampNeg - cu (nI i).toNatClampNeg).toInt64 = v4.toInt64 * (se i - cu i).toInt64 := by rw [ci]
  generalize v4.toInt64 * (se i - cu i).toInt64 = dv at d1 F
  have e1 : vp_updL ca (nI b).toNatClampNeg (ca (nI b).toNatClampNeg + dv) = vp_updL ca b (ca b + dv) := by rw [cb]
  have e2 : vp_updL (vp_updL ca b (ca b + dv)) (nI s).toNatClampNeg (vp_updL ca b (ca b + dv) (nI s).toNatClampNeg - dv) = vp_updL (vp_updL ca b (ca b + dv)) s (vp_updL ca b (ca b + dv) s - dv) := by rw [cs]
  exact ⟨1, _, _, F, fun post hp => (br_t e (br_t rfl ((br_f h (br_f h' (br_f ch_n10 ((br_f g (br_f g' (br_f ch_n10 ((br_f ne ⟨b8, br_t sb ⟨s8, br_t ss ((br_f f (br_f f' (br_f ch_n10 ((br_f q0 (br_t q1 (⟨tb, nm_r xA ⟨ts, nm_r xB (br_f a1 (br_f a2 (br_f ch_n10 (br_f c1 (br_f c2 (br_f ch_n10 ⟨tb, nm_r u1 ⟨ts, nm_r u2 ⟨i4, i4, nm_r d1 ⟨b8, b8, nm_r e1 ⟨s8, s8, nm_r e2 hp⟩⟩⟩⟩⟩))))))⟩⟩))))))))⟩⟩)))))))))))),
    fun post hp => (ch_yDn hM hn (br_t ch_m1 ((br_f h (br_f h' (br_f ch_n10 ((br_f g (br_f g' (br_f ch_n10 ((br_f ne ⟨b8, br_t sb ⟨s8, br_t ss ((br_f f (br_f f' (br_f ch_n10 ((br_f q0 (br_t q1 (⟨tb, nm_r wA ⟨ts, nm_r wB (br_f A2 (br_t A1 (br_f B2 (br_t B1 ⟨tb, nm_r w1 ⟨ts, nm_r w2 ⟨i4, i4, nm_r d1 ⟨b8, b8, nm_r e1 ⟨s8, s8, nm_r e2 hp⟩⟩⟩⟩⟩))))⟩⟩))))))))⟩⟩))))))))))))⟩
theorem i_vc_trade {k : Nat} {u : SX} {v : SY} (I : i_Rel k u v) (hk : k + 5 ≤ 2564) (v1 : Int32) (v2 : Int32) (v3 : Int32) (v4 : Int32) : wpX_trade (fun r u' => wpY_trade (fun r' v' => r' = r ∧ i_Rel (k + 5) u' v') v v1 v2 v3 v4) u v1 v2 v3 v4 := by
  obtain ⟨r, u', v', F, hX, hY⟩ := ch_trade I hk v1 v2 v3 v4
  exact hX _ (hY _ ⟨rfl, F⟩)
end CHG
