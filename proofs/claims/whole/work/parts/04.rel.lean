section CHD
/-! E: the relation -/
def ch_Ph (M : Nat) (fd : Int32) (st : Nat → Int32) : Prop := (fd = -1 ∧ ∀ j, j < M → ¬ st j = 1) ∨ ∃ d, d < M ∧ fd = nI d ∧ st d = 1 ∧ ∀ j, j < M → j ≠ d → ¬ st j = 1
def ch_Bi (M : Nat) (hb ba : Nat → Int32) (bb : Nat → Int64) : Prop := (∀ j, M ≤ j → hb j = 0) ∧ ∀ j, ¬ hb j = 0 → bb j = (ba j).toInt64 ∧ ch_ab 1000000 (ba j)
def ch_Fd (k : Nat) (fu : Nat → Int64) : Prop := ∀ j, 0 ≤ (fu j).toInt ∧ (fu j).toInt ≤ 200000 * (k : Int)
def ch_aL (B : Int) (x : Int64) : Prop := -B ≤ x.toInt ∧ x.toInt ≤ B
def ch_Ca (k : Nat) (ca : Nat → Int64) : Prop := ∀ j, ch_aL (10000000000000 * (k : Int)) (ca j)
def ch_pb (st : Nat → Int32) (M : Nat) : Int := 10000 * ((2 ^ ch_cd st M : Nat) : Int)
def ch_Po (M : Nat) (st ps : Nat → Int32) : Prop := ∀ s, ch_ab (ch_pb st M) (ps s)
def ch_pr (x : Int32) : Prop := 1 ≤ x.toInt ∧ x.toInt ≤ 100000
def ch_Pr (cu se : Nat → Int32) : Prop := ∀ i, i < 4 → ch_pr (cu i) ∧ ch_pr (se i)
def ch_Cn (M N R : Nat) : Prop := (2 ≤ M ∧ M ≤ 8) ∧ (1 ≤ N ∧ N ≤ 4) ∧ (1 ≤ R ∧ R ≤ 50)
def ch_Inv (k M N R : Nat) (fd : Int32) (st : Nat → Int32) (ca fu : Nat → Int64) (hb ba : Nat → Int32) (bb : Nat → Int64) (ps cu se : Nat → Int32) : Prop :=
  ch_Cn M N R ∧ ch_Ph M fd st ∧ ch_Bi M hb ba bb ∧ ch_Fd k fu ∧ ch_Ca k ca ∧ ch_Po M st ps ∧ ch_Pr cu se
def i_Rel (k : Nat) (u : SX) (v : SY) : Prop := ∃ (M N R : Nat) (H : Int64) (fd : Int32) (st : Nat → Int32) (ca fu mc : Nat → Int64) (hb ba : Nat → Int32) (bb : Nat → Int64) (ps cu se : Nat → Int32) (wf pa pb : Nat → Int64),
  u = ((nI M), (nI N), (nI R), H, fd, st, ca, fu, mc, hb, ba, ps, cu, se, wf, pa) ∧ v = ((nI M), (nI N), (nI R), H, st, ca, fu, mc, ps, hb, bb, cu, se, wf, pb) ∧ ch_Inv k M N R fd st ca fu hb ba bb ps cu se
theorem ch_mk {k M N R : Nat} {H : Int64} {fd : Int32} {st : Nat → Int32} {ca fu mc : Nat → Int64} {hb ba : Nat → Int32} {bb : Nat → Int64} {ps cu se : Nat → Int32} {wf pa pb : Nat → Int64}
    (h : ch_Inv k M N R fd st ca fu hb ba bb ps cu se) : i_Rel k ((nI M), (nI N), (nI R), H, fd, st, ca, fu, mc, hb, ba, ps, cu, se, wf, pa) ((nI M), (nI N), (nI R), H, st, ca, fu, mc, ps, hb, bb, cu, se, wf, pb) :=
  ⟨M, N, R, H, fd, st, ca, fu, mc, hb, ba, bb, ps, cu, se, wf, pa, pb, rfl, rfl, h⟩
theorem ch_FdU {k k' : Nat} {fu : Nat → Int64} (h : ch_Fd k fu) (hk : k ≤ k') : ch_Fd k' fu := by
  intro j; have := h j; omega
theorem ch_aLM {B C : Int} {x : Int64} (h : ch_aL B x) (hc : B ≤ C) : ch_aL C x := ⟨by have := h.1; omega, by have := h.2; omega⟩
theorem ch_CaU {k k' : Nat} {ca : Nat → Int64} (h : ch_Ca k ca) (hk : k ≤ k') : ch_Ca k' ca := by
  intro j; exact ch_aLM (h j) (by omega)
theorem i_up {k : Nat} {u : SX} {v : SY} (h : i_Rel k u v) : i_Rel (k + 5) u v := by
  obtain ⟨M, N, R, H, fd, st, ca, fu, mc, hb, ba, bb, ps, cu, se, wf, pa, pb, rfl, rfl, hc, hp, hi, hf, ha, ho, hr⟩ := h
  exact ch_mk ⟨hc, hp, hi, ch_FdU hf (by omega), ch_CaU ha (by omega), ho, hr⟩
theorem ch_n10 : ¬ (1 : Int32) = 0 := by decide
theorem ch_0 : nI 0 = 0 := nI_0
theorem ch_slot (m i : Nat) : nI m * 4 + nI i = nI (m * 4 + i) := by
  rw [show (4 : Int32) = nI 4 from rfl, pk_mul, nI_add]
theorem ch_pbB {st : Nat → Int32} {M : Nat} (h : M ≤ 8) : 10000 ≤ ch_pb st M ∧ ch_pb st M ≤ 2560000 := by
  have a := ch_cdB st M
  have b : 2 ^ ch_cd st M ≤ 2 ^ 8 := Nat.pow_le_pow_right (by decide) (by omega)
  have c : 1 ≤ 2 ^ ch_cd st M := Nat.one_le_two_pow
  unfold ch_pb
  omega
/-! the small readings -/
theorem ch_sort (x : Int32) {n : Nat} (hn : n < 2 ^ 31) : (x < 0) ∨ (¬ x < 0 ∧ nI n ≤ x) ∨ ∃ j : Nat, j < n ∧ x = nI j ∧ ¬ nI j < 0 ∧ ¬ nI n ≤ nI j := by
  rcases pk_ix x hn with h | h | ⟨j, hj, e⟩
  · exact Or.inl h
  · by_cases q : x < 0
    · exact Or.inl q
    · exact Or.inr (Or.inl ⟨q, h⟩)
  · exact Or.inr (Or.inr ⟨j, hj, e, nI_pos (by omega), nI_ge hj hn⟩)
theorem i_vc_getHouse {k : Nat} {u : SX} {v : SY} (I : i_Rel k u v) (hk : k + 5 ≤ 2564) : wpX_getHouse (fun r => wpY_getHouse (fun r' => r' = r ∧ i_Rel (k + 5) u v) v) u := by
  have J := i_up I
  obtain ⟨M, N, R, H, fd, st, ca, fu, mc, hb, ba, bb, ps, cu, se, wf, pa, pb, rfl, rfl, hc, hp, hi, hf, ha, ho, hr⟩ := I
  exact ⟨rfl, J⟩
theorem i_vc_getStatus {k : Nat} {u : SX} {v : SY} (I : i_Rel k u v) (hk : k + 5 ≤ 2564) (v1 : Int32) : wpX_getStatus (fun r => wpY_getStatus (fun r' => r' = r ∧ i_Rel (k + 5) u v) v v1) u v1 := by
  have J := i_up I
  obtain ⟨M, N, R, H, fd, st, ca, fu, mc, hb, ba, bb, ps, cu, se, wf, pa, pb, rfl, rfl, hc, hp, hi, hf, ha, ho, hr⟩ := I
  have hM := hc.1.2
  unfold wpX_getStatus wpX_isMember wpY_getStatus wpY_validM
  dsimp only
  rcases ch_sort v1 (n := M) (by omega) with h | ⟨h, h'⟩ | ⟨m, hm, rfl, h, h'⟩
  · exact br_t h (br_t rfl (br_t h (br_t rfl ⟨rfl, J⟩)))
  · exact br_f h (br_t h' (br_t rfl (br_f h (br_t h' (br_t rfl ⟨rfl, J⟩)))))
  · have i8 : vp_in (nI m) 8 := vp_in_nI (by omega) (by omega)
    exact br_f h (br_f h' (br_f ch_n10 ⟨i8, br_f h (br_f h' (br_f ch_n10 ⟨i8, rfl, J⟩))⟩))
theorem i_vc_getWaterfall {k : Nat} {u : SX} {v : SY} (I : i_Rel k u v) (hk : k + 5 ≤ 2564) (v1 : Int32) : wpX_getWaterfall (fun r => wpY_getWaterfall (fun r' => r' = r ∧ i_Rel (k + 5) u v) v v1) u v1 := by
  have J := i_up I
  obtain ⟨M, N, R, H, fd, st, ca, fu, mc, hb, ba, bb, ps, cu, se, wf, pa, pb, rfl, rfl, hc, hp, hi, hf, ha, ho, hr⟩ := I
  unfold wpX_getWaterfall wpY_getWaterfall
  dsimp only
  rcases ch_sort v1 (n := 7) (by omega) with h | ⟨h, h'⟩ | ⟨m, hm, rfl, h, h'⟩
  · exact br_t h (br_t h ⟨rfl, J⟩)
  · have h6 : ¬ v1 ≤ 6 := by
      intro z
      have a := Int32.le_iff_toInt_le.mp z
      have b := Int32.le_iff_toInt_le.mp h'
      have c : (6 : Int32).toInt = 6 := by decide
      rw [nI_toInt (by omega)] at b
      omega
    exact br_f h (br_t h' (br_f h (br_f h6 ⟨rfl, J⟩)))
  · have i7 : vp_in (nI m) 7 := vp_in_nI (by omega) (by omega)
    have h6 : nI m ≤ 6 := nI_le (b := 6) (by omega) (by decide)
    exact br_f h (br_f h' ⟨i7, br_f h (br_t h6 ⟨i7, rfl, J⟩)⟩)
theorem i_vc_getBalance {k : Nat} {u : SX} {v : SY} (I : i_Rel k u v) (hk : k + 5 ≤ 2564) (v1 : Int32) (v2 : Int32) : wpX_getBalance (fun r => wpY_getBalance (fun r' => r' = r ∧ i_Rel (k + 5) u v) v v1 v2) u v1 v2 := by
  have J := i_up I
  obtain ⟨M, N, R, H, fd, st, ca, fu, mc, hb, ba, bb, ps, cu, se, wf, pa, pb, rfl, rfl, hc, hp, hi, hf, ha, ho, hr⟩ := I
  have hM := hc.1.2
  unfold wpX_getBalance wpX_isMember wpX_isAccount wpY_getBalance wpY_validM
  dsimp only
  rcases ch_sort v1 (n := M) (by omega) with h | ⟨h, h'⟩ | ⟨m, hm, rfl, h, h'⟩
  · exact br_t h (br_t rfl (br_t h (br_t rfl ⟨rfl, J⟩)))
  · exact br_f h (br_t h' (br_t rfl (br_f h (br_t h' (br_t rfl ⟨rfl, J⟩)))))
  · have i8 : vp_in (nI m) 8 := vp_in_nI (by omega) (by omega)
    refine br_f h (br_f h' (br_f ch_n10 ?_))
    by_cases a0 : v2 = 0
    · exact br_t a0 (br_f ch_n10 (br_t a0 ⟨i8, br_f h (br_f h' (br_f ch_n10 (br_t a0 ⟨i8, rfl, J⟩)))⟩))
    · by_cases a1 : v2 = 1
      · exact br_f a0 (br_t a1 (br_f ch_n10 (br_f a0 ⟨i8, br_f h (br_f h' (br_f ch_n10 (br_f a0 (br_t a1 ⟨i8, rfl, J⟩))))⟩)))
      · exact br_f a0 (br_f a1 (br_t rfl (br_f h (br_f h' (br_f ch_n10 (br_f a0 (br_f a1 ⟨rfl, J⟩)))))))
theorem i_vc_getPosition {k : Nat} {u : SX} {v : SY} (I : i_Rel k u v) (hk : k + 5 ≤ 2564) (v1 : Int32) (v2 : Int32) : wpX_getPosition (fun r => wpY_getPosition (fun r' => r' = r ∧ i_Rel (k + 5) u v) v v1 v2) u v1 v2 := by
  have J := i_up I
  obtain ⟨M, N, R, H, fd, st, ca, fu, mc, hb, ba, bb, ps, cu, se, wf, pa, pb, rfl, rfl, hc, hp, hi, hf, ha, ho, hr⟩ := I
  have hM := hc.1.2
  have hN := hc.2.1.2
  unfold wpX_getPosition wpX_isMember wpX_isInstrument wpX_slot wpY_getPosition wpY_validM wpY_validI
  dsimp only
  rcases ch_sort v1 (n := M) (by omega) with h | ⟨h, h'⟩ | ⟨m, hm, rfl, h, h'⟩
  · exact br_t h (br_t rfl (br_t h (br_t rfl ⟨rfl, J⟩)))
  · exact br_f h (br_t h' (br_t rfl (br_f h (br_t h' (br_t rfl ⟨rfl, J⟩)))))
  · refine br_f h (br_f h' (br_f ch_n10 ?_))
    rcases ch_sort v2 (n := N) (by omega) with g | ⟨g, g'⟩ | ⟨i, hi, rfl, g, g'⟩
    · exact br_t g (br_t rfl (br_f h (br_f h' (br_f ch_n10 (br_t g (br_t rfl ⟨rfl, J⟩))))))
    · exact br_f g (br_t g' (br_t rfl (br_f h (br_f h' (br_f ch_n10 (br_f g (br_t g' (br_t rfl ⟨rfl, J⟩))))))))
    · have i32 : vp_in (nI m * 4 + nI i) 32 := by rw [ch_slot]; exact vp_in_nI (by omega) (by omega)
      exact br_f g (br_f g' (br_f ch_n10 ⟨i32, br_f h (br_f h' (br_f ch_n10 (br_f g (br_f g' (br_f ch_n10 ⟨i32, rfl, J⟩)))))⟩))
theorem i_vc_getPrice {k : Nat} {u : SX} {v : SY} (I : i_Rel k u v) (hk : k + 5 ≤ 2564) (v1 : Int32) (v2 : Int32) : wpX_getPrice (fun r => wpY_getPrice (fun r' => r' = r ∧ i_Rel (k + 5) u v) v v1 v2) u v1 v2 := by
  have J := i_up I
  obtain ⟨M, N, R, H, fd, st, ca, fu, mc, hb, ba, bb, ps, cu, se, wf, pa, pb, rfl, rfl, hc, hp, hi, hf, ha, ho, hr⟩ := I
  have hN := hc.2.1.2
  unfold wpX_getPrice wpX_isInstrument wpY_getPrice wpY_validI
  dsimp only
  rcases ch_sort v1 (n := N) (by omega) with h | ⟨h, h'⟩ | ⟨m, hm, rfl, h, h'⟩
  · exact br_t h (br_t rfl (br_t h (br_t rfl ⟨rfl, J⟩)))
  · exact br_f h (br_t h' (br_t rfl (br_f h (br_t h' (br_t rfl ⟨rfl, J⟩)))))
  · have i4 : vp_in (nI m) 4 := vp_in_nI (by omega) (by omega)
    refine br_f h (br_f h' (br_f ch_n10 ?_))
    by_cases a0 : v2 = 0
    · exact br_t a0 ⟨i4, br_f h (br_f h' (br_f ch_n10 (br_t a0 ⟨i4, rfl, J⟩)))⟩
    · by_cases a1 : v2 = 1
      · exact br_f a0 (br_t a1 ⟨i4, br_f h (br_f h' (br_f ch_n10 (br_f a0 (br_t a1 ⟨i4, rfl, J⟩))))⟩)
      · exact br_f a0 (br_f a1 (br_f h (br_f h' (br_f ch_n10 (br_f a0 (br_f a1 ⟨rfl, J⟩))))))
end CHD
