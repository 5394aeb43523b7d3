section CPA
/-! the invariant: zero-sum positions, money kept -/
variable {k M N R : Nat} {E : Int64} {H : Int64} {fd : Int32} {st : Nat → Int32} {ca fu mc : Nat → Int64} {hb ba : Nat → Int32} {ps cu se : Nat → Int32} {wf pa : Nat → Int64}
def cp_Zs (M N : Nat) (ps : Nat → Int32) : Prop := ∀ i, i < N → ch_sI (fun m => (ps (m * 4 + i)).toInt) M = 0
def cp_Bx (M : Nat) (st hb ba : Nat → Int32) : Prop := (∀ j, M ≤ j → hb j = 0) ∧ ∀ j, ¬ hb j = 0 → st j = 0 ∧ ch_ab 1000000 (ba j)
def cp_Sv (M : Nat) (fd : Int32) (st : Nat → Int32) : Prop := fd = -1 ∨ ∃ j, j < M ∧ st j = 0
def cp_IX (k M N R : Nat) (E H : Int64) (fd : Int32) (st : Nat → Int32) (ca fu : Nat → Int64) (hb ba ps cu se : Nat → Int32) : Prop :=
  ch_Cn M N R ∧ ch_Ph M fd st ∧ cp_Bx M st hb ba ∧ ch_Fd k fu ∧ ch_Ca k ca ∧ ch_Po M st ps ∧ ch_Pr cu se ∧ cp_Zs M N ps ∧ H + ch_sL ca M + ch_sL fu M = E ∧ cp_Sv M fd st
def cp_RX (k M N R : Nat) (E : Int64) (u : St2) : Prop := ∃ (H : Int64) (fd : Int32) (st : Nat → Int32) (ca fu mc : Nat → Int64) (hb ba ps cu se : Nat → Int32) (wf pa : Nat → Int64), u = ((nI M), (nI N), (nI R), H, fd, st, ca, fu, mc, hb, ba, ps, cu, se, wf, pa) ∧ cp_IX k M N R E H fd st ca fu hb ba ps cu se
theorem cp_mk (h : cp_IX k M N R E H fd st ca fu hb ba ps cu se) : cp_RX k M N R E ((nI M), (nI N), (nI R), H, fd, st, ca, fu, mc, hb, ba, ps, cu, se, wf, pa) := ⟨H, fd, st, ca, fu, mc, hb, ba, ps, cu, se, wf, pa, rfl, h⟩
theorem cp_up {k' : Nat} {u : St2} (h : cp_RX k M N R E u) (hk : k ≤ k') : cp_RX k' M N R E u := by
  obtain ⟨H, fd, st, ca, fu, mc, hb, ba, ps, cu, se, wf, pa, rfl, hc, hp, hi, hf, ha, ho, hr, hz, he, hs⟩ := h
  exact cp_mk ⟨hc, hp, hi, ch_FdU hf hk, ch_CaU ha hk, ho, hr, hz, he, hs⟩
theorem cp_cons1 {m : Nat} {x : Int64} (hm : m < M) (he : H + ch_sL ca M + ch_sL fu M = E) : H + ch_sL (vp_updL ca m (ca m + x)) M + ch_sL fu M = E + x := by
  rw [ch_sLu, if_pos hm, ← he]; grind
theorem cp_cons2 {m : Nat} {x : Int64} (hm : m < M) (he : H + ch_sL ca M + ch_sL fu M = E) : H + ch_sL ca M + ch_sL (vp_updL fu m (fu m + x)) M = E + x := by
  rw [ch_sLu, if_pos hm, ← he]; grind
theorem cp_cons3 {m : Nat} {x : Int64} (hm : m < M) (he : H + ch_sL ca M + ch_sL fu M = E) : H + ch_sL (vp_updL ca m (ca m - x)) M + ch_sL fu M = E - x := by
  rw [ch_sLu, if_pos hm, ← he]; grind
theorem cp_cons4 {m : Nat} {x : Int64} (hm : m < M) (he : H + ch_sL ca M + ch_sL fu M = E) : H + ch_sL ca M + ch_sL (vp_updL fu m (fu m - x)) M = E - x := by
  rw [ch_sLu, if_pos hm, ← he]; grind
theorem cp_deposit {u : St2} {v1 v2 v3 : Int32} {post : Int32 → St2 → Prop} (I : cp_RX k M N R E u) (hk : k + 5 ≤ 2564) (h0 : ∀ u', cp_RX (k + 5) M N R E u' → post 0 u') (h1 : ∀ u', cp_RX (k + 5) M N R (E + v3.toInt64) u' → post 1 u') : wpX_deposit post u v1 v2 v3 := by
  have J := h0 _ (cp_up I (show k ≤ k + 5 by omega))
  obtain ⟨H, fd, st, ca, fu, mc, hb, ba, ps, cu, se, wf, pa, rfl, hc, hp, hi, hf, ha, ho, hr, hz, he, hs⟩ := I
  have hM := hc.1.2
  rcases ch_sort v1 (n := M) (by omega) with h | ⟨h, h'⟩ | ⟨m, hm, rfl, h, h'⟩
  · exact br_t h (br_t rfl J)
  · exact br_f h (br_t h' (br_t rfl J))
  have i8 : vp_in (nI m) 8 := vp_in_nI (by omega) (by omega)
  have c8 : (nI m).toNatClampNeg = m := nI_clamp (by omega)
  refine br_f h (br_f h' (br_f ch_n10 ?_))
  have amo : ∀ (Q : Prop) , (¬ v3 < 1 → v3 ≤ 1000000 → Q) → (wpX_isAmount (fun r_21 => ((r_21 = 0 → post 0 ((nI M), (nI N), (nI R), H, fd, st, ca, fu, mc, hb, ba, ps, cu, se, wf, pa)) ∧ (¬ r_21 = 0 → Q))) () v3) := by
    intro Q hq
    by_cases b0 : v3 < 1
    · exact br_t b0 (br_t rfl J)
    · by_cases b1 : v3 ≤ 1000000
      · exact br_f b0 (br_f (Int32.not_lt.mpr b1) (br_f ch_n10 (hq b0 b1)))
      · exact br_f b0 (br_t (Int32.not_le.mp b1) (br_t rfl J))
  by_cases a0 : v2 = 0
  · refine br_t a0 (br_f ch_n10 (amo _ (fun b0 b1 => ⟨i8, ?_⟩)))
    have am := ch_amt (c := 1000000) (by decide) b0 b1
    by_cases s0 : st (nI m).toNatClampNeg = 0
    · have n1 : ¬ v2 = 1 := by rw [a0]; decide
      refine br_t s0 (br_f n1 ⟨i8, i8, nm_r (e' := vp_updL ca m (ca m + v3.toInt64)) (by rw [c8]) ⟨i8, i8, ?_⟩⟩)
      have Q := ch_CaAdd (m := m) hk ha (ch_aLi (x := v3) (C := 20000000000000) (by omega))
      have fin : ∀ r31, (vp_in (nI m) 8 ∧ ∀ y : Nat → Int64, y = vp_updL mc (nI m).toNatClampNeg (mc (nI m).toNatClampNeg - r31) → post 1 ((nI M), (nI N), (nI R), H, fd, st, vp_updL ca m (ca m + v3.toInt64), fu, y, hb, ba, ps, cu, se, wf, pa)) :=
        fun r31 => ⟨i8, fun y _ => h1 _ (cp_mk ⟨hc, hp, hi, ch_FdU hf (by omega), Q, ho, hr, hz, cp_cons1 hm he, hs⟩)⟩
      by_cases q : v3.toInt64 ≤ mc (nI m).toNatClampNeg
      · exact br_t q (fin _)
      · exact br_f q (fin _)
    · exact br_f s0 J
  · by_cases a1 : v2 = 1
    · refine br_f a0 (br_t a1 (br_f ch_n10 (amo _ (fun b0 b1 => ⟨i8, ?_⟩))))
      have am := ch_amt (c := 1000000) (by decide) b0 b1
      by_cases s0 : st (nI m).toNatClampNeg = 0
      · exact br_t s0 (br_t a1 ⟨i8, i8, nm_r (e' := vp_updL fu m (fu m + v3.toInt64)) (by rw [c8]) (h1 _ (cp_mk ⟨hc, hp, hi, ch_FdAdd hk hf am, ch_CaU ha (by omega), ho, hr, hz, cp_cons2 hm he, hs⟩))⟩)
      · exact br_f s0 J
    · exact br_f a0 (br_f a1 (br_t rfl J))
theorem cp_withdraw {u : St2} {v1 v2 v3 : Int32} {post : Int32 → St2 → Prop} (I : cp_RX k M N R E u) (hk : k + 5 ≤ 2564) (h0 : ∀ u', cp_RX (k + 5) M N R E u' → post 0 u') (h1 : ∀ u', cp_RX (k + 5) M N R (E - v3.toInt64) u' → post 1 u') : wpX_withdraw post u v1 v2 v3 := by
  have J := h0 _ (cp_up I (show k ≤ k + 5 by omega))
  obtain ⟨H, fd, st, ca, fu, mc, hb, ba, ps, cu, se, wf, pa, rfl, hc, hp, hi, hf, ha, ho, hr, hz, he, hs⟩ := I
  have hM := hc.1.2
  rcases ch_sort v1 (n := M) (by omega) with h | ⟨h, h'⟩ | ⟨m, hm, rfl, h, h'⟩
  · exact br_t h (br_t rfl J)
  · exact br_f h (br_t h' (br_t rfl J))
  have i8 : vp_in (nI m) 8 := vp_in_nI (by omega) (by omega)
  have c8 : (nI m).toNatClampNeg = m := nI_clamp (by omega)
  refine br_f h (br_f h' (br_f ch_n10 ?_))
  have amo : ∀ (Q : Prop) , (¬ v3 < 1 → v3 ≤ 1000000 → Q) → (wpX_isAmount (fun r_21 => ((r_21 = 0 → post 0 ((nI M), (nI N), (nI R), H, fd, st, ca, fu, mc, hb, ba, ps, cu, se, wf, pa)) ∧ (¬ r_21 = 0 → Q))) () v3) := by
    intro Q hq
    by_cases b0 : v3 < 1
    · exact br_t b0 (br_t rfl J)
    · by_cases b1 : v3 ≤ 1000000
      · exact br_f b0 (br_f (Int32.not_lt.mpr b1) (br_f ch_n10 (hq b0 b1)))
      · exact br_f b0 (br_t (Int32.not_le.mp b1) (br_t rfl J))
  by_cases a0 : v2 = 0
  · refine br_t a0 (br_f ch_n10 (amo _ (fun b0 b1 => ?_)))
    have am := ch_amt (c := 1000000) (by decide) b0 b1
    by_cases f0 : fd = -1
    case neg => exact br_f f0 (br_f ch_n10 J)
    have n1 : ¬ v2 = 1 := by rw [a0]; decide
    refine br_t f0 (br_t rfl (br_f n1 ⟨i8, ?_⟩))
    by_cases c0 : mc (nI m).toNatClampNeg = 0
    · refine br_t c0 ⟨i8, ch_xIM (by omega) hc.2.1.2 hc.2.2 hr ?_⟩
      by_cases q : ch_L (ch_im (ch_p ps se R m) N) ≤ ca (nI m).toNatClampNeg - v3.toInt64
      · exact br_t q ⟨i8, i8, nm_r (e' := vp_updL ca m (ca m - v3.toInt64)) (by rw [c8]) (h1 _ (cp_mk ⟨hc, hp, hi, ch_FdU hf (by omega), ch_CaSub hk ha (ch_aLi (x := v3) (C := 20000000000000) (by omega)), ho, hr, hz, cp_cons3 hm he, hs⟩))⟩
      · exact br_f q J
    · exact br_f c0 J
  · by_cases a1 : v2 = 1
    · refine br_f a0 (br_t a1 (br_f ch_n10 (amo _ (fun b0 b1 => ?_))))
      have am := ch_amt (c := 1000000) (by decide) b0 b1
      by_cases f0 : fd = -1
      case neg => exact br_f f0 (br_f ch_n10 J)
      refine br_t f0 (br_t rfl (br_t a1 ⟨i8, ?_⟩))
      by_cases q : v3.toInt64 ≤ fu (nI m).toNatClampNeg
      · have q' : v3.toInt64 ≤ fu m := by rw [← c8]; exact q
        exact br_t q ⟨i8, i8, nm_r (e' := vp_updL fu m (fu m - v3.toInt64)) (by rw [c8]) (h1 _ (cp_mk ⟨hc, hp, hi, ch_FdSub hk hf am q', ch_CaU ha (by omega), ho, hr, hz, cp_cons4 hm he, hs⟩))⟩
      · exact br_f q J
    · exact br_f a0 (br_f a1 (br_t rfl J))
theorem cp_quote {u : St2} {v1 v2 : Int32} {post : Int32 → St2 → Prop} (I : cp_RX k M N R E u) (hq : ∀ r u', cp_RX (k + 5) M N R E u' → post r u') : wpX_quote post u v1 v2 := by
  have J := fun r => hq r _ (cp_up I (show k ≤ k + 5 by omega))
  obtain ⟨H, fd, st, ca, fu, mc, hb, ba, ps, cu, se, wf, pa, rfl, hc, hp, hi, hf, ha, ho, hr, hz, he, hs⟩ := I
  have hN := hc.2.1.2
  rcases ch_sort v1 (n := N) (by omega) with h | ⟨h, h'⟩ | ⟨m, hm, rfl, h, h'⟩
  · exact br_t h (br_t rfl (J _))
  · exact br_f h (br_t h' (br_t rfl (J _)))
  have i4 : vp_in (nI m) 4 := vp_in_nI (by omega) (by omega)
  refine br_f h (br_f h' (br_f ch_n10 ?_))
  by_cases b0 : v2 < 1
  · exact br_t b0 (J _)
  by_cases b1 : v2 ≤ 100000
  · have am := ch_amt (c := 100000) (by decide) b0 b1
    exact br_f b0 (br_t b1 ⟨i4, nm_e (hq _ _ (cp_mk ⟨hc, hp, hi, ch_FdU hf (by omega), ch_CaU ha (by omega), ho, ch_PrQ hr am, hz, he, hs⟩))⟩)
  · exact br_f b0 (br_f b1 (J _))
theorem cp_bid {u : St2} {v1 v2 : Int32} {post : Int32 → St2 → Prop} (I : cp_RX k M N R E u) (hq : ∀ r u', cp_RX (k + 5) M N R E u' → post r u') : wpX_bid post u v1 v2 := by
  have J := fun r => hq r _ (cp_up I (show k ≤ k + 5 by omega))
  obtain ⟨H, fd, st, ca, fu, mc, hb, ba, ps, cu, se, wf, pa, rfl, hc, hp, hi, hf, ha, ho, hr, hz, he, hs⟩ := I
  have hM := hc.1.2
  by_cases f0 : fd = -1
  · exact br_t f0 (br_t rfl (J _))
  refine br_f f0 (br_f ch_n10 ?_)
  rcases ch_sort v1 (n := M) (by omega) with h | ⟨h, h'⟩ | ⟨m, hm, rfl, h, h'⟩
  · exact br_t h (br_t rfl (J _))
  · exact br_f h (br_t h' (br_t rfl (J _)))
  have i8 : vp_in (nI m) 8 := vp_in_nI (by omega) (by omega)
  have c8 : (nI m).toNatClampNeg = m := nI_clamp (by omega)
  refine br_f h (br_f h' (br_f ch_n10 ⟨i8, ?_⟩))
  by_cases s0 : st (nI m).toNatClampNeg = 0
  case neg => exact br_f s0 (J _)
  refine br_t s0 ?_
  by_cases b0 : v2 < -1000000
  · exact br_t b0 (J _)
  by_cases b1 : v2 ≤ 1000000
  case neg => exact br_f b0 (br_f b1 (J _))
  have am : ch_ab 1000000 v2 := by
    rw [Int32.lt_iff_toInt_lt] at b0
    rw [Int32.le_iff_toInt_le] at b1
    have c1 : (-1000000 : Int32).toInt = -1000000 := by decide
    have c2 : (1000000 : Int32).toInt = 1000000 := by decide
    exact ⟨by omega, by omega⟩
  have B : cp_Bx M st (upd hb m 1) (upd ba m v2) := by
    refine ⟨fun j hj => ?_, fun j hj => ?_⟩
    · rw [ch_un (by omega)]; exact hi.1 j hj
    · by_cases q : j = m
      · rw [q, ch_us]
        exact ⟨by rw [← c8]; exact s0, am⟩
      · rw [ch_un q]; rw [ch_un q] at hj; exact hi.2 j hj
  exact br_f b0 (br_t b1 ⟨i8, nm_r (e' := upd hb m 1) (by rw [c8]) ⟨i8, nm_r (e' := upd ba m v2) (by rw [c8]) (hq _ _ (cp_mk ⟨hc, hp, B, ch_FdU hf (by omega), ch_CaU ha (by omega), ho, hr, hz, he, hs⟩))⟩⟩)
theorem cp_ZsT {b s i : Nat} {A B : Int32} {q : Int} (hb' : b < M) (hs' : s < M) (ne : b ≠ s) (hi : i < 4) (hN : N ≤ 4) (hA : A.toInt = (ps (b * 4 + i)).toInt + q) (hB : B.toInt = (ps (s * 4 + i)).toInt - q) (hz : cp_Zs M N ps) : cp_Zs M N (upd (upd ps (b * 4 + i) A) (s * 4 + i) B) := by
  intro j hj
  by_cases e : j = i
  · subst e
    have E1 : ∀ m, m < M → (upd (upd ps (b * 4 + j) A) (s * 4 + j) B (m * 4 + j)).toInt = ((ps (m * 4 + j)).toInt + (if m = b then q else 0)) + (if m = s then -q else 0) := by
      intro m _
      by_cases c : m = s
      · subst c
        rw [ch_us, if_pos rfl, if_neg (fun y => ne y.symm), hB]; omega
      · rw [ch_un (by omega), if_neg c]
        by_cases d : m = b
        · subst d
          rw [ch_us, if_pos rfl, hA]; omega
        · rw [ch_un (by omega), if_neg d]; omega
    rw [ch_sIc M E1, ch_sIa, ch_sIa, hz j hj, ch_sI1, ch_sI1, if_pos hb', if_pos hs']; omega
  · rw [ch_sIc (g := fun m => (ps (m * 4 + j)).toInt) M (fun m _ => by
      show (upd (upd ps (b * 4 + i) A) (s * 4 + i) B (m * 4 + j)).toInt = _
      rw [ch_un (by omega), ch_un (by omega)])]
    exact hz j hj
theorem cp_trade {u : St2} {v1 v2 v3 v4 : Int32} {post : Int32 → St2 → Prop} (I : cp_RX k M N R E u) (hk : k + 5 ≤ 2564) (hq : ∀ r u', cp_RX (k + 5) M N R E u' → post r u') : wpX_trade post u v1 v2 v3 v4 := by
  have J := fun r => hq r _ (cp_up I (show k ≤ k + 5 by omega))
  obtain ⟨H, fd, st, ca, fu, mc, hb, ba, ps, cu, se, wf, pa, rfl, hc, hp, hi, hf, ha, ho, hr, hz, he, hs⟩ := I
  have hM := hc.1.2
  have hN := hc.2.1.2
  by_cases f0 : fd = -1
  case neg => exact br_f f0 (br_f ch_n10 (J _))
  refine br_t f0 (br_t rfl ?_)
  rcases ch_sort v1 (n := M) (by omega) with h | ⟨h, h'⟩ | ⟨b, hb', rfl, h, h'⟩
  · exact br_t h (br_t rfl (J _))
  · exact br_f h (br_t h' (br_t rfl (J _)))
  refine br_f h (br_f h' (br_f ch_n10 ?_))
  rcases ch_sort v2 (n := M) (by omega) with g | ⟨g, g'⟩ | ⟨s, hs', rfl, g, g'⟩
  · exact br_t g (br_t rfl (J _))
  · exact br_f g (br_t g' (br_t rfl (J _)))
  refine br_f g (br_f g' (br_f ch_n10 ?_))
  have b8 : vp_in (nI b) 8 := vp_in_nI (by omega) (by omega)
  have s8 : vp_in (nI s) 8 := vp_in_nI (by omega) (by omega)
  have cb : (nI b).toNatClampNeg = b := nI_clamp (by omega)
  have cs : (nI s).toNatClampNeg = s := nI_clamp (by omega)
  by_cases ne : nI b = nI s
  · exact br_t ne (J _)
  have ne' : b ≠ s := fun z => ne (by rw [z])
  refine br_f ne ⟨b8, ?_⟩
  by_cases sb : st (nI b).toNatClampNeg = 0
  case neg => exact br_f sb (J _)
  refine br_t sb ⟨s8, ?_⟩
  by_cases ss : st (nI s).toNatClampNeg = 0
  case neg => exact br_f ss (J _)
  refine br_t ss ?_
  rcases ch_sort v3 (n := N) (by omega) with f | ⟨f, f'⟩ | ⟨i, hi', rfl, f, f'⟩
  · exact br_t f (br_t rfl (J _))
  · exact br_f f (br_t f' (br_t rfl (J _)))
  refine br_f f (br_f f' (br_f ch_n10 ?_))
  have i4 : vp_in (nI i) 4 := vp_in_nI (by omega) (by omega)
  have ci : (nI i).toNatClampNeg = i := nI_clamp (by omega)
  have tb : vp_in (nI b * 4 + nI i) 32 := by rw [ch_slot]; exact vp_in_nI (by omega) (by omega)
  have ts : vp_in (nI s * 4 + nI i) 32 := by rw [ch_slot]; exact vp_in_nI (by omega) (by omega)
  have cB : (nI b * 4 + nI i).toNatClampNeg = b * 4 + i := by rw [ch_slot]; exact nI_clamp (by omega)
  have cS : (nI s * 4 + nI i).toNatClampNeg = s * 4 + i := by rw [ch_slot]; exact nI_clamp (by omega)
  by_cases q0 : v4 < 1
  · exact br_t q0 (J _)
  refine br_f q0 ?_
  by_cases q1 : v4 ≤ 1000
  case neg => exact br_f q1 (J _)
  have am := ch_amt (c := 1000) (by decide) q0 q1
  have pbB := ch_pbB (st := st) hM
  have ob := ho (b * 4 + i)
  have os := ho (s * 4 + i)
  unfold ch_ab at ob os
  have xA : ps (nI b * 4 + nI i).toNatClampNeg + v4 = ps (b * 4 + i) + v4 := by rw [cB]
  have xB : ps (nI s * 4 + nI i).toNatClampNeg - v4 = ps (s * 4 + i) - v4 := by rw [cS]
  have tA : (ps (b * 4 + i) + v4).toInt = (ps (b * 4 + i)).toInt + v4.toInt := ch_addI (by omega) (by omega)
  have tB : (ps (s * 4 + i) - v4).toInt = (ps (s * 4 + i)).toInt - v4.toInt := ch_subI (by omega) (by omega)
  generalize ps (b * 4 + i) + v4 = A at xA tA
  generalize ps (s * 4 + i) - v4 = B at xB tB
  refine br_t q1 ⟨tb, nm_r xA ⟨ts, nm_r xB ?_⟩⟩
  by_cases a1 : A < -10000
  · exact br_t a1 (br_t rfl (J _))
  by_cases a2 : 10000 < A
  · exact br_f a1 (br_t a2 (br_t rfl (J _)))
  refine br_f a1 (br_f a2 (br_f ch_n10 ?_))
  by_cases c1 : B < -10000
  · exact br_t c1 (br_t rfl (J _))
  by_cases c2 : 10000 < B
  · exact br_f c1 (br_t c2 (br_t rfl (J _)))
  refine br_f c1 (br_f c2 (br_f ch_n10 ?_))
  have dd := ch_dif (hr i (by omega)).2 (hr i (by omega)).1
  have D : ch_aL 100000000 (v4.toInt64 * (se i - cu i).toInt64) := ch_aLmul (A := 1000) (B := 100000) ⟨by omega, by omega⟩ dd.2 (by omega) (by omega)
  have d1 : v4.toInt64 * (se (nI i).toNatClampNeg - cu (nI i).toNatClampNeg).toInt64 = v4.toInt64 * (se i - cu i).toInt64 := by rw [ci]
  generalize v4.toInt64 * (se i - cu i).toInt64 = dv at d1 D
  have Q : ch_Ca (k + 5) (vp_updL (vp_updL ca b (ca b + dv)) s (vp_updL ca b (ca b + dv) s - dv)) := by
    rw [ch_uLn (fun z => ne' z.symm)]
    intro j
    refine ch_uLAll (P := ch_aL (10000000000000 * ((k + 5 : Nat) : Int))) (ch_uLAll (P := ch_aL (10000000000000 * ((k + 5 : Nat) : Int))) (fun i => ch_aLM (ha i) (by omega)) ?_) ?_ j
    · exact ch_aLM (ch_aLadd (ha b) D (by omega)) (by omega)
    · exact ch_aLM (ch_aLsub (ha s) D (by omega)) (by omega)
  have u1 : upd ps (nI b * 4 + nI i).toNatClampNeg A = upd ps (b * 4 + i) A := by rw [cB]
  have u2 : upd (upd ps (b * 4 + i) A) (nI s * 4 + nI i).toNatClampNeg B = upd (upd ps (b * 4 + i) A) (s * 4 + i) B := by rw [cS]
  have e1 : vp_updL ca (nI b).toNatClampNeg (ca (nI b).toNatClampNeg + dv) = vp_updL ca b (ca b + dv) := by rw [cb]
  have e2 : vp_updL (vp_updL ca b (ca b + dv)) (nI s).toNatClampNeg (vp_updL ca b (ca b + dv) (nI s).toNatClampNeg - dv) = vp_updL (vp_updL ca b (ca b + dv)) s (vp_updL ca b (ca b + dv) s - dv) := by rw [cs]
  have cv : H + ch_sL (vp_updL (vp_updL ca b (ca b + dv)) s (vp_updL ca b (ca b + dv) s - dv)) M + ch_sL fu M = E := by
    rw [ch_sLu, if_pos hs', ch_sLu, if_pos hb', ← he]; grind
  exact ⟨tb, nm_r u1 ⟨ts, nm_r u2 ⟨i4, i4, nm_r d1 ⟨b8, b8, nm_r e1 ⟨s8, s8, nm_r e2 (hq _ _ (cp_mk ⟨hc, hp, hi, ch_FdU hf (by omega), Q, ch_PoU hM (ch_PoU (s := b * 4 + i) hM ho (ch_limB a1 a2)) (s := s * 4 + i) (ch_limB c1 c2), hr, cp_ZsT hb' hs' ne' (by omega) hN tA tB hz, cv, hs⟩))⟩⟩⟩⟩⟩
theorem cp_vmS (hN : N ≤ 4) (hz : cp_Zs M N ps) : ∀ n, n ≤ N → ch_sL (fun j => ch_vm ps cu se j n) M = 0 := by
  intro n
  induction n with
  | zero =>
    intro _
    have : ∀ m, ch_sL (fun _ => (0 : Int64)) m = 0 := by
      intro m
      induction m with
      | zero => rfl
      | succ m ih => show ch_sL (fun _ => (0 : Int64)) m + 0 = 0; rw [ih]; rfl
    exact this M
  | succ n ih =>
    intro hn
    show ch_sL (fun j => ch_vm ps cu se j n + (ps (j * 4 + n)).toInt64 * (cu n - se n).toInt64) M = 0
    rw [ch_sLa, ih (by omega), ch_sLc (g := fun j => ch_L ((ps (j * 4 + n)).toInt * (cu n - se n).toInt)) M (fun j _ => by rw [ch_Li, ch_Li, ch_Lmul]), ch_sIL, ch_sIm, hz n (by omega), Int.zero_mul]
    decide
theorem cp_settle {u : St2} {post : Int32 → St2 → Prop} (I : cp_RX k M N R E u) (hk : k + 5 ≤ 2564) (hq : ∀ r u', cp_RX (k + 5) M N R E u' → post r u') : wpX_settle post u := by
  have J := fun r => hq r _ (cp_up I (show k ≤ k + 5 by omega))
  obtain ⟨H, fd, st, ca, fu, mc, hb, ba, ps, cu, se, wf, pa, rfl, hc, hp, hi, hf, ha, ho, hr, hz, he, hs⟩ := I
  have hM := hc.1.2
  have hN := hc.2.1.2
  by_cases f0 : fd = -1
  case neg => exact br_f f0 (br_f ch_n10 (J _))
  have Q : ch_Ca (k + 5) (ch_cs ps cu se N ca M) := by
    intro j
    rw [ch_csE]
    split
    · exact ch_aLM (ch_aLadd (ha j) (ch_vmB hM ho hr N hN) (by omega)) (by omega)
    · exact ch_aLM (ha j) (by omega)
  have P : ch_Pr cu (ch_sl cu se N) := by
    intro j hj
    rw [ch_slE]
    split
    · exact ⟨(hr j hj).1, (hr j hj).1⟩
    · exact hr j hj
  have S : ch_sL (ch_cs ps cu se N ca M) M = ch_sL ca M := by
    rw [ch_sLc (g := fun j => ca j + ch_vm ps cu se j N) M (fun j hj => by rw [ch_csE, if_pos hj]), ch_sLa, cp_vmS hN hz N (Nat.le_refl _)]
    exact Int64.add_zero _
  refine br_t f0 (br_t rfl ⟨M + 1, ch_xS1 hM hN ⟨N + 1, ch_xS2 hN (hq _ _ (cp_mk ⟨hc, hp, hi, ch_FdU hf (by omega), Q, ho, P, hz, by rw [S]; exact he, hs⟩)) N 0 (by omega)⟩ M 0 (by omega)⟩)
theorem cp_callMargins {u : St2} {post : Int32 → St2 → Prop} (I : cp_RX k M N R E u) (hq : ∀ r u', cp_RX (k + 5) M N R E u' → post r u') : wpX_callMargins post u := by
  have J := fun r => hq r _ (cp_up I (show k ≤ k + 5 by omega))
  obtain ⟨H, fd, st, ca, fu, mc, hb, ba, ps, cu, se, wf, pa, rfl, hc, hp, hi, hf, ha, ho, hr, hz, he, hs⟩ := I
  have hM := hc.1.2
  have hN := hc.2.1.2
  by_cases f0 : fd = -1
  case neg => exact br_f f0 (br_f ch_n10 (J _))
  exact br_t f0 (br_t rfl ⟨M + 1, ch_xCM hM hN hc.2.2 hr (hq _ _ (cp_mk ⟨hc, hp, hi, ch_FdU hf (by omega), ch_CaU ha (by omega), ho, hr, hz, he, hs⟩)) M 0 (by omega)⟩)
theorem cp_caE : ∀ n, 0 < ch_ca st n → ∃ j, j < n ∧ st j = 0 := by
  intro n
  induction n with
  | zero => intro h; exact absurd h (Nat.lt_irrefl 0)
  | succ n ih =>
    intro h
    by_cases s0 : st n = 0
    · exact ⟨n, Nat.lt_succ_self n, s0⟩
    · have : ch_ca st (n + 1) = ch_ca st n := congrArg (ch_ca st n + ·) (if_neg s0)
      rw [this] at h
      obtain ⟨j, a, b⟩ := ih h
      exact ⟨j, by omega, b⟩
theorem cp_coE2 {m : Nat} : ∀ n, 0 < ch_co st m n → ∃ j, j < n ∧ j ≠ m ∧ st j = 0 := by
  intro n
  induction n with
  | zero => intro h; exact absurd h (Nat.lt_irrefl 0)
  | succ n ih =>
    intro h
    by_cases s0 : n ≠ m ∧ st n = 0
    · exact ⟨n, Nat.lt_succ_self n, s0⟩
    · have : ch_co st m (n + 1) = ch_co st m n := congrArg (ch_co st m n + ·) (if_neg s0)
      rw [this] at h
      obtain ⟨j, a, b⟩ := ih h
      exact ⟨j, by omega, b⟩
theorem cp_declare {u : St2} {v1 : Int32} {post : Int32 → St2 → Prop} (I : cp_RX k M N R E u) (hq : ∀ r u', cp_RX (k + 5) M N R E u' → post r u') : wpX_declareDefault post u v1 := by
  have J := fun r => hq r _ (cp_up I (show k ≤ k + 5 by omega))
  obtain ⟨H, fd, st, ca, fu, mc, hb, ba, ps, cu, se, wf, pa, rfl, hc, hp, hi, hf, ha, ho, hr, hz, he, hs⟩ := I
  have hM := hc.1.2
  rcases id hp with ⟨f0, hn⟩ | ⟨d, hd, e, h1, hn⟩
  case inr =>
    have z : ¬ fd = -1 := by rw [e]; exact ch_ne1 (by omega)
    exact br_f z (br_f ch_n10 (J _))
  refine br_t f0 (br_t rfl ?_)
  rcases ch_sort v1 (n := M) (by omega) with h | ⟨h, h'⟩ | ⟨m, hm, rfl, h, h'⟩
  · exact br_t h (br_t rfl (J _))
  · exact br_f h (br_t h' (br_t rfl (J _)))
  have i8 : vp_in (nI m) 8 := vp_in_nI (by omega) (by omega)
  have c8 : (nI m).toNatClampNeg = m := nI_clamp (by omega)
  refine br_f h (br_f h' (br_f ch_n10 ⟨i8, ?_⟩))
  by_cases s0 : st (nI m).toNatClampNeg = 0
  case neg => exact br_f s0 (J _)
  refine br_t s0 ⟨i8, ?_⟩
  by_cases c0 : mc (nI m).toNatClampNeg ≤ 0
  · exact br_t c0 (J _)
  refine br_f c0 (ch_xSC hM ?_)
  have s1 : st m = 0 := by rw [← c8]; exact s0
  have CE := ch_coE s1 M
  rw [if_pos hm] at CE
  have CB := ch_caB st M
  by_cases q : ch_co st m M = 0
  · exact br_f (nI_ge (b := 2) (by omega) (by decide)) (J _)
  · have PH : ch_Ph M (nI m) (upd st m 1) := Or.inr ⟨m, hm, rfl, ch_us, fun j hj hne => by rw [ch_un hne]; exact hn j hj⟩
    have PO : ch_Po M (upd st m 1) ps := by
      intro s
      have := ho s
      unfold ch_pb at this ⊢
      rw [ch_cdN (by rw [s1]; decide) (by decide)]
      exact this
    have SV : cp_Sv M (nI m) (upd st m 1) := by
      obtain ⟨j, a, b, c⟩ := cp_coE2 (st := st) (m := m) M (by omega)
      exact Or.inr ⟨j, a, by rw [ch_un b]; exact c⟩
    exact br_t (nI_le (a := 2) (by omega) (by omega)) ⟨i8, nm_r (e' := upd st m 1) (by rw [c8]) ⟨i8, nm_r (e' := vp_updL mc m 0) (by rw [c8]) (ch_xCB hM hi.1 (hq _ _ (cp_mk ⟨hc, PH, ⟨fun j _ => rfl, fun j hj => absurd rfl hj⟩, ch_FdU hf (by omega), ch_CaU ha (by omega), PO, hr, hz, he, SV⟩)))⟩⟩
end CPA
