section CHJ
/-! K: the portfolio, sold or allocated -/
variable {M N R : Nat} {H : Int64} {fd : Int32} {st : Nat → Int32} {ca fu mc : Nat → Int64} {hb ba : Nat → Int32} {bb : Nat → Int64} {ps cu se : Nat → Int32} {wf pa pb : Nat → Int64}
theorem ch_xGv {post : St2 → Prop} {x : Int64} (hM : M ≤ 8) (hp : ∀ pa', (∀ j, j < M → pa' j = if ch_fa st M = some j then x else 0) → post ((nI M), (nI N), (nI R), H, fd, st, ca, fu, mc, hb, ba, ps, cu, se, wf, pa')) : wpX_giveAllToFirstSurvivor post ((nI M), (nI N), (nI R), H, fd, st, ca, fu, mc, hb, ba, ps, cu, se, wf, pa) x := by
  have L : ∀ n m (pa : Nat → Int64), m + n = M → (∀ j, j < m → pa j = if ch_fa st m = some j then x else 0) → wX_giveAllToFirstSurvivor_5 post (nI M) (nI N) (nI R) H fd (n + 1) (if ch_fa st m = none then x else 0) (nI m) st ca fu mc hb ba ps cu se wf pa := by
    intro n
    induction n with
    | zero =>
      intro m pa hm h
      obtain rfl : m = M := by omega
      exact br_t (Int32.le_refl _) (hp pa h)
    | succ n ih =>
      intro m pa hm h
      have i8 : vp_in (nI m) 8 := vp_in_nI (by omega) (by omega)
      have c8 : (nI m).toNatClampNeg = m := nI_clamp (by omega)
      refine br_f (nI_ge (by omega) (by omega)) ⟨i8, nm_r (by rw [c8]) ⟨i8, ?_⟩⟩
      by_cases s0 : st m = 0
      · refine br_t (by rw [c8]; exact s0) ⟨i8, nm_r (by rw [c8, ch_uuL]) (nm_r (nI_1 m) ?_)⟩
        cases fa : ch_fa st m with
        | none =>
          have e : ch_fa st (m + 1) = some m := by
            unfold ch_fa; rw [fa]; exact if_pos s0
          have z := ih (m + 1) (vp_updL pa m x) (by omega) (fun j hj => by
            rw [e]
            by_cases q : j = m
            · rw [q, ch_uLs, if_pos rfl]
            · rw [ch_uLn q, h j (by omega), fa, if_neg (fun y => nomatch y), if_neg (fun y => q (Option.some.inj y).symm)])
          rw [e, if_neg (fun y => nomatch y)] at z
          rw [if_pos rfl]
          exact z
        | some t =>
          have e : ch_fa st (m + 1) = some t := by
            unfold ch_fa; rw [fa]
          have tm := (ch_faS m t fa).1
          have z := ih (m + 1) (vp_updL pa m 0) (by omega) (fun j hj => by
            rw [e]
            by_cases q : j = m
            · rw [q, ch_uLs, if_neg (fun y => by have := Option.some.inj y; omega)]
            · rw [ch_uLn q, h j (by omega), fa])
          rw [e, if_neg (fun y => nomatch y)] at z
          rw [if_neg (fun y => nomatch y)]
          exact z
      · have e : ch_fa st (m + 1) = ch_fa st m := by
          show (match ch_fa st m with | some s => some s | none => if st m = 0 then some m else none) = ch_fa st m
          cases fa : ch_fa st m with
          | none => exact if_neg s0
          | some t => rfl
        have z := ih (m + 1) (vp_updL pa m 0) (by omega) (fun j hj => by
          rw [e]
          by_cases q : j = m
          · rw [q, ch_uLs]
            by_cases y : ch_fa st m = some m
            · have := (ch_faS m m y).1; omega
            · rw [if_neg y]
          · rw [ch_uLn q, h j (by omega)])
        rw [e] at z
        exact br_f (by rw [c8]; exact s0) (nm_r (nI_1 m) z)
  exact ⟨M + 1, L M 0 pa (by omega) (fun j hj => absurd hj (Nat.not_lt_zero _))⟩
/-- what member m gets of q -/
def ch_G (st : Nat → Int32) (f : Nat → Nat) (F M : Nat) (q : Int32) (m : Nat) : Int32 :=
  if F = 0 then (if ch_fa st M = some m then q else 0) else (if 0 ≤ q then 1 else -1) * nI (ch_g st f q.toInt.natAbs F M m)
theorem ch_sgA {q : Int32} (h : ch_ab 2560000 q) : ((if 0 ≤ q then (1 : Int32) else -1) * q).toInt64 = lN q.toInt.natAbs ∧ (if 0 ≤ q then (1 : Int32) else -1) * (lN q.toInt.natAbs).toInt32 = q := by
  have a := h.1
  have b := h.2
  have z0 : (0 : Int32).toInt = 0 := by decide
  have key : ∀ x : Int32, x = ch_I x.toInt := fun x => (ch_Iof x).symm
  by_cases c : 0 ≤ q
  · have d := Int32.le_iff_toInt_le.mp c
    rw [if_pos c, Int32.one_mul, Int32.one_mul, lN_i, ch_Li, ch_Ln, ch_In, show ((q.toInt.natAbs : Nat) : Int) = q.toInt by omega]
    exact ⟨rfl, ch_Iof q⟩
  · have d : ¬ 0 ≤ q.toInt := fun z => c (Int32.le_iff_toInt_le.mpr (by omega))
    have e : (-1 : Int32) * q = ch_I (-q.toInt) := by
      rw [key q, show (-1 : Int32) = ch_I (-1) from by decide, ch_Imul, ch_IT (by omega) (by omega)]
      congr 1; omega
    rw [if_neg c, e, ch_LI (by omega) (by omega), lN_i, ch_Ln, ch_In, show ((q.toInt.natAbs : Nat) : Int) = -q.toInt by omega]
    refine ⟨rfl, ?_⟩
    rw [show (-1 : Int32) = ch_I (-1) from by decide, ch_Imul, show -1 * -q.toInt = q.toInt by omega, ch_Iof]
theorem ch_GB {f : Nat → Nat} {F : Nat} (hfF : ∀ j, j < M → st j = 0 → f j ≤ F) {B : Int} (hB : B ≤ 2560000) (q : Int32) (h : ch_ab B q) (m : Nat) (hm : m < M) : ch_ab B (ch_G st f F M q m) := by
  have a := h.1
  have b := h.2
  unfold ch_G
  split
  · split
    · exact h
    · exact ch_ab0 (by omega)
  · have g := ch_gA (st := st) (f := f) (A := q.toInt.natAbs) (F := F) hm (hfF m hm)
    have t : (nI (ch_g st f q.toInt.natAbs F M m)).toInt = (ch_g st f q.toInt.natAbs F M m : Int) := nI_toInt (by omega)
    split
    · rw [Int32.one_mul]
      exact ⟨by rw [t]; omega, by rw [t]; omega⟩
    · have e : (-1 : Int32) * nI (ch_g st f q.toInt.natAbs F M m) = ch_I (-(ch_g st f q.toInt.natAbs F M m : Int)) := by
        rw [ch_In, show (-1 : Int32) = ch_I (-1) from by decide, ch_Imul]
        congr 1; omega
      rw [e]
      exact ⟨by rw [ch_IT (by omega) (by omega)]; omega, by rw [ch_IT (by omega) (by omega)]; omega⟩
theorem ch_G0 {f : Nat → Nat} {F : Nat} (m : Nat) : ch_G st f F M 0 m = 0 := by
  unfold ch_G
  split
  · split <;> rfl
  · have : ch_g st f (0 : Int32).toInt.natAbs F M m = 0 := by
      rw [show (0 : Int32).toInt.natAbs = 0 from by decide]
      have a : ¬ ((st m = 0 ∧ 0 < f m) ∧ ch_el st f m + ch_gs st f 0 F M < 0) := fun y => Nat.not_lt_zero _ y.2
      unfold ch_g ch_g0
      rw [if_neg a, Nat.zero_mul, Nat.zero_div]
      split <;> rfl
    rw [this]
    exact Int32.mul_zero
/-- X: one column -/
theorem ch_xA75 {post : St2 → Prop} {J : Int32 → Int32 → Int32 → Int32 → Int64 → Int32 → (Nat → Int32) → (Nat → Int64) → (Nat → Int64) → (Nat → Int64) → (Nat → Int32) → (Nat → Int32) → (Nat → Int32) → (Nat → Int32) → (Nat → Int32) → (Nat → Int64) → (Nat → Int64) → Prop} {d i : Nat} {x2 : Int64} {x6 : Int32} {g : Nat → Int32} (hM : M ≤ 8) (hd : d < 8) (hi : i < 4) (hg : ∀ m, m < M → x6 * (pa m).toInt32 = g m)
    (hp : J (nI (i + 1)) (nI M) (nI N) (nI R) H fd st ca fu mc hb ba (upd (ch_al g i ps M) (d * 4 + i) 0) cu se wf pa) : ∃ n, wX_allocatePortfolio_75 post J (nI d) x2 (nI i) x6 (nI M) (nI N) (nI R) H fd n 0 st ca fu mc hb ba ps cu se wf pa := by
  have L : ∀ n m, m + n = M → wX_allocatePortfolio_75 post J (nI d) x2 (nI i) x6 (nI M) (nI N) (nI R) H fd (n + 1) (nI m) st ca fu mc hb ba (ch_al g i ps m) cu se wf pa := by
    intro n
    induction n with
    | zero =>
      intro m hm
      obtain rfl : m = M := by omega
      exact br_t (Int32.le_refl _) (ch_xSlot ⟨vp_in_nI (by omega) (by omega), nm_r (by rw [nI_clamp (by omega)]) (nm_r (nI_1 i) hp)⟩)
    | succ n ih =>
      intro m hm
      have i8 : vp_in (nI m) 8 := vp_in_nI (by omega) (by omega)
      have i32 : vp_in (nI (m * 4 + i)) 32 := vp_in_nI (by omega) (by omega)
      exact br_f (nI_ge (by omega) (by omega)) (ch_xSlot ⟨i32, i8, i32, nm_r (by rw [nI_clamp (by omega), nI_clamp (by omega), hg m (by omega)]; rfl) (nm_r (nI_1 m) (ih (m + 1) (by omega)))⟩)
  exact ⟨M + 1, L M 0 (by omega)⟩
theorem ch_xAl {post : St2 → Prop} {f : Nat → Nat} {d : Nat} {B : Int} (hM : M ≤ 8) (hN : N ≤ 4) (hd : d < 8) (hf : ∀ j, fu j = lN (f j)) (hfB : ∀ j, f j < 536870912) (hB : 0 ≤ B ∧ B ≤ 2560000) (ho : ∀ s, ch_ab B (ps s))
    (hp : ∀ pa', post ((nI M), (nI N), (nI R), H, fd, st, ca, fu, mc, hb, ba, ch_aa (ch_G st f (ch_fs st f M) M) M d ps N, cu, se, wf, pa')) : wpX_allocatePortfolio post ((nI M), (nI N), (nI R), H, fd, st, ca, fu, mc, hb, ba, ps, cu, se, wf, pa) (nI d) := by
  have hfF : ∀ j, j < M → st j = 0 → f j ≤ ch_fs st f M := fun j hj hs => ch_fsGe hj hs
  have FB : ch_fs st f M < 4294967296 := by
    have := ch_fsB (st := st) (f := f) (B := 536870911) (fun j => by have := hfB j; omega) M
    omega
  have L : ∀ n i (pa : Nat → Int64), i + n = N → wX_allocatePortfolio_8 post (nI d) (lN (ch_fs st f M)) (n + 1) (nI i) (nI M) (nI N) (nI R) H fd st ca fu mc hb ba (ch_aa (ch_G st f (ch_fs st f M) M) M d ps i) cu se wf pa := by
    intro n
    induction n with
    | zero =>
      intro i pa hi
      obtain rfl : i = N := by omega
      exact br_t (Int32.le_refl _) (hp pa)
    | succ n ih =>
      intro i pa hi
      have C := ch_aaCol (G := ch_G st f (ch_fs st f M) M) (M := M) (d := d) hB.1 (by omega) (fun q h m hm => ch_GB hfF hB.2 q h m hm) ho i (by omega)
      have qB := ch_abM ((C (d * 4 + i)).2 (by omega)) hB.2
      have z := fun pa => ih (i + 1) pa (by omega)
      refine br_f (nI_ge (by omega) (by omega)) (ch_xSlot ⟨vp_in_nI (by omega) (by omega), nm_r (by rw [nI_clamp (by omega)]) ?_⟩)
      have z' : ∀ pa, wX_allocatePortfolio_8 post (nI d) (lN (ch_fs st f M)) (n + 1) (nI (i + 1)) (nI M) (nI N) (nI R) H fd st ca fu mc hb ba (upd (ch_al (ch_G st f (ch_fs st f M) M (ch_aa (ch_G st f (ch_fs st f M) M) M d ps i (d * 4 + i))) i (ch_aa (ch_G st f (ch_fs st f M) M) M d ps i) M) (d * 4 + i) 0) cu se wf pa := z
      clear z
      generalize ch_aa (ch_G st f (ch_fs st f M) M) M d ps i = p at qB z' ⊢
      generalize p (d * 4 + i) = q at qB z'
      have S := ch_sgA qB
      have key : ∀ x6 : Int32, x6 = (if 0 ≤ q then (1 : Int32) else -1) → wX_allocatePortfolio_40 post (wX_allocatePortfolio_8 post (nI d) (lN (ch_fs st f M)) (n + 1)) (nI d) (lN (ch_fs st f M)) (nI i) q x6 (nI M) (nI N) (nI R) H fd st ca fu mc hb ba p cu se wf pa := by
        intro x6 hx
        rw [← hx] at S
        unfold wX_allocatePortfolio_40
        rw [S.1]
        have F0 : lN (ch_fs st f M) ≤ 0 ↔ ch_fs st f M = 0 := ch_lN0 (by omega)
        by_cases c : ch_fs st f M = 0
        · refine br_t (F0.mpr c) (ch_xGv hM (fun pa' hpa => ?_))
          refine ch_xA75 (g := ch_G st f (ch_fs st f M) M q) hM hd (by omega) (fun m hm => ?_) (z' pa')
          rw [hpa m hm]
          unfold ch_G
          rw [if_pos c]
          split
          · exact S.2
          · exact Int32.mul_zero
        · refine br_f (fun y => c (F0.mp y)) (ch_xSp (f := f) hM hf (by have := qB.1; have := qB.2; omega) (by omega) FB hfF hfB (fun pa' hpa => ?_))
          refine ch_xA75 (g := ch_G st f (ch_fs st f M) M q) hM hd (by omega) (fun m hm => ?_) (z' pa')
          rw [hpa m hm, lN_i, hx]
          unfold ch_G
          rw [if_neg c]
      by_cases c : 0 ≤ q
      · exact br_t c (key 1 (by rw [if_pos c]))
      · exact br_f c (key (-1) (by rw [if_neg c]))
  exact ch_xFs hM hf ⟨N + 1, L N 0 pa (by omega)⟩
/-! the reference allocates -/
/-! sold -/
theorem ch_xSe {post : St2 → Prop} {d w : Nat} {x3 : Int32} (hN : N ≤ 4) (hd : d < 8) (hw : w < 8)
    (hp : post ((nI M), (nI N), (nI R), H, fd, st, vp_updL (vp_updL ca w (ca w - x3.toInt64)) d (vp_updL ca w (ca w - x3.toInt64) d + x3.toInt64), fu, mc, hb, ba, ch_se w d ps N, cu, se, wf, pa)) : wpX_sellPortfolio post ((nI M), (nI N), (nI R), H, fd, st, ca, fu, mc, hb, ba, ps, cu, se, wf, pa) (nI d) (nI w) x3 := by
  have d8 : vp_in (nI d) 8 := vp_in_nI (by omega) (by omega)
  have w8 : vp_in (nI w) 8 := vp_in_nI (by omega) (by omega)
  have L : ∀ n i, i + n = N → wX_sellPortfolio_3 post (nI d) (nI w) x3 (nI M) (nI N) (nI R) H fd (n + 1) (nI i) st ca fu mc hb ba (ch_se w d ps i) cu se wf pa := by
    intro n
    induction n with
    | zero =>
      intro i hi
      obtain rfl : i = N := by omega
      exact br_t (Int32.le_refl _) ⟨w8, w8, nm_r (by rw [nI_clamp (by omega)]) ⟨d8, d8, nm_r (by rw [nI_clamp (by omega)]) hp⟩⟩
    | succ n ih =>
      intro i hi
      have iw : vp_in (nI (w * 4 + i)) 32 := vp_in_nI (by omega) (by omega)
      have id' : vp_in (nI (d * 4 + i)) 32 := vp_in_nI (by omega) (by omega)
      exact br_f (nI_ge (by omega) (by omega)) (ch_xSlot ⟨iw, ch_xSlot ⟨id', iw, nm_r (by rw [nI_clamp (by omega), nI_clamp (by omega)]) (ch_xSlot ⟨id', nm_r (by rw [nI_clamp (by omega)]; rfl) (nm_r (nI_1 i) (ih (i + 1) (by omega)))⟩)⟩⟩)
  exact ⟨N + 1, L N 0 (by omega)⟩
end CHJ
