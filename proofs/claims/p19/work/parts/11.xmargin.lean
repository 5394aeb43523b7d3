section CHE
/-! F: the initial margin, on both sides -/
variable {M N R : Nat} {H : Int64} {fd : Int32} {st : Nat → Int32} {ca fu mc : Nat → Int64} {hb ba : Nat → Int32} {bb : Nat → Int64} {ps cu se : Nat → Int32} {wf pa pb : Nat → Int64}
def ch_w (se : Nat → Int32) (R : Nat) (i : Nat) : Int := (se i).toInt * (R : Int) / 100
def ch_p (ps se : Nat → Int32) (R m : Nat) (i : Nat) : Int := (ps (m * 4 + i)).toInt * ch_w se R i
theorem ch_wB {i : Nat} (h : ch_pr (se i)) (hR : 1 ≤ R ∧ R ≤ 50) : (0 ≤ (se i).toInt * (R : Int) ∧ (se i).toInt * (R : Int) ≤ 5000000) ∧ 0 ≤ ch_w se R i ∧ ch_w se R i ≤ 50000 := by
  have a := h.1
  have b := h.2
  have c : 0 ≤ (se i).toInt * (R : Int) := Int.mul_nonneg (by omega) (by omega)
  have d : (se i).toInt * (R : Int) ≤ 100000 * 50 := Int.mul_le_mul b (by omega) (by omega) (by omega)
  unfold ch_w
  omega
theorem ch_wX {i : Nat} (h : ch_pr (se i)) (hR : 1 ≤ R ∧ R ≤ 50) : ((se i).toInt64 * (nI R).toInt64) / 100 = ch_L (ch_w se R i) := by
  have b := ch_wB h hR
  apply Int64.toInt_inj.mp
  rw [Int64.toInt_div_of_ne_right _ _ (by decide), ch_LT (by omega) (by omega), show (100 : Int64).toInt = 100 from by decide]
  have e : ((se i).toInt64 * (nI R).toInt64).toInt = (se i).toInt * (R : Int) := by
    rw [ch_mulL] <;> rw [Int32.toInt_toInt64, Int32.toInt_toInt64, nI_toInt (by omega)] <;> omega
  rw [e, Int.tdiv_eq_ediv_of_nonneg b.1.1]
  rfl
theorem ch_wY {i : Nat} (h : ch_pr (se i)) (hR : 1 ≤ R ∧ R ≤ 50) : ((se i * nI R) / 100).toInt64 = ch_L (ch_w se R i) := by
  have b := ch_wB h hR
  apply Int64.toInt_inj.mp
  rw [Int32.toInt_toInt64, Int32.toInt_div_of_ne_right _ _ (by decide), ch_LT (by omega) (by omega), show (100 : Int32).toInt = 100 from by decide]
  have e : (se i * nI R).toInt = (se i).toInt * (R : Int) := by
    rw [ch_mulI] <;> rw [nI_toInt (by omega)] <;> omega
  rw [e, Int.tdiv_eq_ediv_of_nonneg b.1.1]
  rfl
theorem ch_pB {m : Nat} (h : ch_Pr cu se) (hR : 1 ≤ R ∧ R ≤ 50) : ∀ i, i < 4 → -107374182400000 ≤ ch_p ps se R m i ∧ ch_p ps se R m i ≤ 107374182400000 := by
  intro i hi
  have b := ch_wB (h i hi).2 hR
  have c := (ps (m * 4 + i)).toInt_lt
  have d := (ps (m * 4 + i)).le_toInt
  have e := ch_absmul (a := (ps (m * 4 + i)).toInt) (b := ch_w se R i) (A := 2147483648) (B := 50000) (by omega) (by omega) (by omega) (by omega)
  unfold ch_p
  omega
theorem ch_xG {post : Int64 → Prop} {a b : Int} (ha : -1000000000000000 ≤ a ∧ a ≤ 1000000000000000) (hbb : -1000000000000000 ≤ b ∧ b ≤ 1000000000000000) (h : post (ch_L (ch_mx a b))) : wpX_greater post () (ch_L a) (ch_L b) := by
  unfold wpX_greater
  have e : ch_L a ≤ ch_L b ↔ a ≤ b := ch_Lle (by omega) (by omega) (by omega) (by omega)
  unfold ch_mx at h
  by_cases q : a ≤ b
  · rw [if_neg (by omega)] at h
    exact br_t (e.mpr q) h
  · rw [if_pos (by omega)] at h
    exact br_f (fun z => q (e.mp z)) h
theorem ch_xSlot {post : Int32 → Prop} {m i : Nat} (h : post (nI (m * 4 + i))) : wpX_slot post () (nI m) (nI i) := by
  unfold wpX_slot
  rw [ch_slot]
  exact h
theorem ch_xWL {post : Int64 → Prop} {m : Nat} {l : Int} (hm : m < 8) (hN : N ≤ 4) (hR : 1 ≤ R ∧ R ≤ 50) (hr : ch_Pr cu se) (h1 : -2 ≤ l) (h2 : l ≤ 1) :
    ∀ (n i : Nat) (s : Int), i + n = N → post (ch_L (s + ch_xw (ch_p ps se R m) l n i)) → wX_worstLoss_5 post (nI m) (ch_I l) (nI M) (nI N) (nI R) H fd st ca fu mc hb ba ps cu se wf pa (n + 1) (ch_L s) (nI i) := by
  intro n
  induction n with
  | zero =>
    intro i s hi hp
    rw [show s + ch_xw (ch_p ps se R m) l 0 i = s from Int.add_zero s] at hp
    exact br_t (nI_le (by omega) (by omega)) hp
  | succ n ih =>
    intro i s hi hp
    have hp4 := (hr i (by omega)).2
    have pb := ch_pB (ps := ps) (m := m) hr hR i (by omega)
    have b1 := ch_absmul (a := -(ch_p ps se R m i)) (b := l) (A := 107374182400000) (B := 2) (by omega) (by omega) (by omega) (by omega)
    have b2 := ch_absmul (a := -(ch_p ps se R m i)) (b := l + 1) (A := 107374182400000) (B := 2) (by omega) (by omega) (by omega) (by omega)
    refine br_f (nI_ge (by omega) (by omega)) ⟨vp_in_nI (by omega) (by omega), by decide, ?_⟩
    rw [nI_clamp (by omega)]
    refine nm_r (ch_wX hp4 hR) ?_
    refine ch_xSlot ⟨vp_in_nI (by omega) (by omega), ?_⟩
    rw [nI_clamp (by omega)]
    refine nm_r (e' := ch_L (-(ch_p ps se R m i))) (by rw [ch_Li, ch_Lmul, ch_Lneg]; rfl) ?_
    have e1 : ch_L (-(ch_p ps se R m i)) * (ch_I l).toInt64 = ch_L (-(ch_p ps se R m i) * l) := by rw [ch_LI (by omega) (by omega), ch_Lmul]
    have e2 : ch_L (-(ch_p ps se R m i)) * (ch_I l + 1).toInt64 = ch_L (-(ch_p ps se R m i) * (l + 1)) := by
      rw [show (1 : Int32) = ch_I 1 from by decide, ch_Iadd, ch_LI (by omega) (by omega), ch_Lmul]
    rw [e1, e2]
    refine ch_xG (by omega) (by omega) ?_
    refine nm_r (ch_Ladd _ _) (nm_r (nI_1 i) ?_)
    refine ih (i + 1) _ (by omega) ?_
    rw [show s + ch_mx (-(ch_p ps se R m i) * l) (-(ch_p ps se R m i) * (l + 1)) + ch_xw (ch_p ps se R m) l n (i + 1) = s + ch_xw (ch_p ps se R m) l (n + 1) i from Int.add_assoc _ _ _]
    exact hp
theorem ch_xIMs {post : Int64 → Prop} {m : Nat} {l a : Int} {n : Nat} (hm : m < 8) (hN : N ≤ 4) (hR : 1 ≤ R ∧ R ≤ 50) (hr : ch_Pr cu se) (h1 : -2 ≤ l) (h2 : l ≤ 1) (ha : -1000000000000000 ≤ a ∧ a ≤ 1000000000000000)
    (h : wX_initialMargin_6 post (nI m) (nI M) (nI N) (nI R) H fd st ca fu mc hb ba ps cu se wf pa n (ch_L (ch_mx a (ch_xw (ch_p ps se R m) l N 0))) (ch_I (l + 1))) :
    wX_initialMargin_6 post (nI m) (nI M) (nI N) (nI R) H fd st ca fu mc hb ba ps cu se wf pa (n + 1) (ch_L a) (ch_I l) := by
  have b := ch_xwB (p := ch_p ps se R m) (B := 107374182400000) (l := l) (e := 4) (by omega) h1 h2 (ch_pB hr hR) N 0 (by omega)
  have q : ¬ (2 : Int32) ≤ ch_I l := by
    rw [show (2 : Int32) = ch_I 2 from by decide, ch_Ile (by omega) (by omega) (by omega) (by omega)]; omega
  refine br_f q ?_
  unfold wpX_worstLoss
  refine ⟨N + 1, ?_⟩
  refine ch_xWL (s := 0) hm hN hR hr h1 h2 N 0 (by omega) ?_
  rw [Int.zero_add]
  refine ch_xG ha (by omega) ?_
  refine nm_r (e' := ch_I (l + 1)) (by rw [show (1 : Int32) = ch_I 1 from by decide, ch_Iadd]) h
theorem ch_imB {m : Nat} (hN : N ≤ 4) (hR : 1 ≤ R ∧ R ≤ 50) (hr : ch_Pr cu se) : 0 ≤ ch_im (ch_p ps se R m) N ∧ ch_im (ch_p ps se R m) N ≤ 858993459200000 := by
  have b : ∀ l : Int, -2 ≤ l → l ≤ 1 → ch_xw (ch_p ps se R m) l N 0 ≤ 858993459200000 := by
    intro l h1 h2
    have := ch_xwB (p := ch_p ps se R m) (B := 107374182400000) (l := l) (e := 4) (by omega) h1 h2 (ch_pB hr hR) N 0 (by omega)
    omega
  have b1 := b (-2) (by omega) (by omega)
  have b2 := b (-1) (by omega) (by omega)
  have b3 := b 0 (by omega) (by omega)
  have b4 := b 1 (by omega) (by omega)
  unfold ch_im ch_mx
  split <;> split <;> split <;> split <;> omega
theorem ch_xIM {post : Int64 → Prop} {m : Nat} (hm : m < 8) (hN : N ≤ 4) (hR : 1 ≤ R ∧ R ≤ 50) (hr : ch_Pr cu se) (h : post (ch_L (ch_im (ch_p ps se R m) N))) : wpX_initialMargin post ((nI M), (nI N), (nI R), H, fd, st, ca, fu, mc, hb, ba, ps, cu, se, wf, pa) (nI m) := by
  have b : ∀ l : Int, -2 ≤ l → l ≤ 1 → -858993459200000 ≤ ch_xw (ch_p ps se R m) l N 0 ∧ ch_xw (ch_p ps se R m) l N 0 ≤ 858993459200000 := by
    intro l h1 h2
    have := ch_xwB (p := ch_p ps se R m) (B := 107374182400000) (l := l) (e := 4) (by omega) h1 h2 (ch_pB hr hR) N 0 (by omega)
    omega
  have b1 := b (-2) (by omega) (by omega)
  have b2 := b (-1) (by omega) (by omega)
  have b3 := b 0 (by omega) (by omega)
  unfold wpX_initialMargin
  refine ⟨5, ?_⟩
  have c1 : -1000000000000000 ≤ ch_mx 0 (ch_xw (ch_p ps se R m) (-2) N 0) ∧ ch_mx 0 (ch_xw (ch_p ps se R m) (-2) N 0) ≤ 1000000000000000 := by
    rcases ch_mxE 0 (ch_xw (ch_p ps se R m) (-2) N 0) with q | q <;> rw [q] <;> omega
  have c2 : -1000000000000000 ≤ ch_mx (ch_mx 0 (ch_xw (ch_p ps se R m) (-2) N 0)) (ch_xw (ch_p ps se R m) (-1) N 0) ∧ ch_mx (ch_mx 0 (ch_xw (ch_p ps se R m) (-2) N 0)) (ch_xw (ch_p ps se R m) (-1) N 0) ≤ 1000000000000000 := by
    rcases ch_mxE (ch_mx 0 (ch_xw (ch_p ps se R m) (-2) N 0)) (ch_xw (ch_p ps se R m) (-1) N 0) with q | q <;> rw [q] <;> omega
  have c3 : -1000000000000000 ≤ ch_mx (ch_mx (ch_mx 0 (ch_xw (ch_p ps se R m) (-2) N 0)) (ch_xw (ch_p ps se R m) (-1) N 0)) (ch_xw (ch_p ps se R m) 0 N 0) ∧ ch_mx (ch_mx (ch_mx 0 (ch_xw (ch_p ps se R m) (-2) N 0)) (ch_xw (ch_p ps se R m) (-1) N 0)) (ch_xw (ch_p ps se R m) 0 N 0) ≤ 1000000000000000 := by
    rcases ch_mxE (ch_mx (ch_mx 0 (ch_xw (ch_p ps se R m) (-2) N 0)) (ch_xw (ch_p ps se R m) (-1) N 0)) (ch_xw (ch_p ps se R m) 0 N 0) with q | q <;> rw [q] <;> omega
  have z : wX_initialMargin_6 post (nI m) (nI M) (nI N) (nI R) H fd st ca fu mc hb ba ps cu se wf pa 5 (ch_L 0) (ch_I (-2)) := by
    refine ch_xIMs hm hN hR hr (by omega) (by omega) (by omega) ?_
    refine ch_xIMs (l := -1) hm hN hR hr (by omega) (by omega) c1 ?_
    refine ch_xIMs (l := 0) hm hN hR hr (by omega) (by omega) c2 ?_
    refine ch_xIMs (l := 1) hm hN hR hr (by omega) (by omega) c3 ?_
    exact br_t (by decide) h
  exact z
/-! the reference's -/
end CHE
