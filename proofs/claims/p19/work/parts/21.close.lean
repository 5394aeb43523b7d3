section CPB
/-! the auction's end keeps sums and money -/
variable {k M N R : Nat} {E : Int64} {H : Int64} {fd : Int32} {st : Nat → Int32} {ca fu mc : Nat → Int64} {hb ba : Nat → Int32} {ps cu se : Nat → Int32} {wf pa : Nat → Int64}
theorem cp_c2S {d : Nat} (hd : d < M) : ch_sL (ch_c2 ca d) M = ch_sL ca M + ch_ls (ca d) := by
  unfold ch_c2 ch_ls
  by_cases c : 0 ≤ ca d
  · rw [if_pos c, if_pos c]; exact (Int64.add_zero _).symm
  · rw [if_neg c, if_neg c, ch_sLu, if_pos hd]; grind
theorem cp_f3S {r : Int64} (hM : M ≤ 8) (hk : k ≤ 2564) (hf : ch_Fd k fu) (hr : 0 ≤ r.toInt) : ch_sL (ch_f3 st fu M r) M = ch_sL fu M - ch_t3 st fu M r := by
  obtain ⟨FB, fB⟩ := ch_fsL (st := st) hM hk hf
  have fe := ch_fnE hf
  by_cases c : r < lN (ch_fs st (ch_fn fu) M)
  · have er := ch_rN hr
    have rB : r.toInt.toNat < ch_fs st (ch_fn fu) M := by
      have := c
      rw [er, pk_lLT (by have := r.toInt_lt; omega) (by omega)] at this
      exact this
    have e3 : ch_t3 st fu M r = r := if_pos c
    rw [e3, ch_sLc (g := fun j => fu j - lN (ch_g st (ch_fn fu) r.toInt.toNat (ch_fs st (ch_fn fu) M) M j)) M (fun j hj => by
      unfold ch_f3; rw [if_pos c, if_pos hj]), ch_sLs, ch_sNL, ch_gSum (by omega), ← er]
  · have e3 : ch_t3 st fu M r = lN (ch_fs st (ch_fn fu) M) := if_neg c
    have key : ∀ n, ch_sL (fun j => if st j = 0 then 0 else fu j) n = ch_sL fu n - lN (ch_fs st (ch_fn fu) n) := by
      intro n
      induction n with
      | zero => exact (by decide : (0 : Int64) = 0 - lN 0)
      | succ n ih =>
        show ch_sL (fun j => if st j = 0 then 0 else fu j) n + (if st n = 0 then 0 else fu n) = ch_sL fu n + fu n - lN (ch_fs st (ch_fn fu) n + (if st n = 0 then ch_fn fu n else 0))
        rw [ih, ← lN_add]
        by_cases s0 : st n = 0
        · rw [if_pos s0, if_pos s0, ← fe n]; grind
        · rw [if_neg s0, if_neg s0, show lN 0 = 0 from rfl]; grind
    rw [e3, ← key M]
    exact ch_sLc M (fun j hj => by
      unfold ch_f3
      rw [if_neg c]
      by_cases s0 : st j = 0
      · rw [if_pos ⟨hj, s0⟩, if_pos s0]
      · rw [if_neg (fun y => s0 y.2), if_neg s0])
theorem cp_consC {d : Nat} (hM : M ≤ 8) (hk : k ≤ 2564) (hd : d < M) (hf : ch_Fd k fu) (hl : 0 ≤ (ch_ls (ca d)).toInt) : ch_H3 st H fu M d (ch_ls (ca d)) + ch_sL (ch_c2 ca d) M + ch_sL (ch_F3 st H fu M d (ch_ls (ca d))) M = H + ch_sL ca M + ch_sL fu M := by
  have a := cp_c2S (ca := ca) hd
  have b := cp_f3S (st := st) (k := k) hM hk (ch_f2B (d := d) hl hf) (ch_r2B (H := H) hl (hf d).1)
  have c : ch_sL (ch_f2 fu d (ch_ls (ca d))) M = ch_sL fu M - ch_t1 (ch_ls (ca d)) (fu d) := by
    unfold ch_f2
    rw [ch_sLu, if_pos hd]; grind
  have e : ch_sL (ch_F3 st H fu M d (ch_ls (ca d))) M = ch_sL fu M - ch_t1 (ch_ls (ca d)) (fu d) - ch_T3 st H fu M d (ch_ls (ca d)) := by
    rw [← c]; exact b
  rw [a, e]
  unfold ch_H3 ch_T4 ch_r2 ch_r1
  generalize ch_ls (ca d) = l
  generalize ch_T3 st H fu M d l = t3
  generalize ch_t2 H (l - ch_t1 l (fu d)) = t2
  generalize ch_t1 l (fu d) = t1
  grind
theorem cp_seZ {w d : Nat} {B : Int} (hw : w < M) (hd : d < M) (hne : w ≠ d) (hB : 0 ≤ B ∧ B ≤ 2560000) (ho : ∀ s, ch_ab B (ps s)) (hz : cp_Zs M N ps) :
    ∀ n, n ≤ 4 → (∀ i, i < n → i < N → ch_sI (fun m => (ch_se w d ps n (m * 4 + i)).toInt) M = 0) ∧ (∀ i, n ≤ i → i < 4 → ∀ m, ch_se w d ps n (m * 4 + i) = ps (m * 4 + i)) := by
  intro n
  induction n with
  | zero => intro _; exact ⟨fun i h => absurd h (Nat.not_lt_zero _), fun i _ _ m => rfl⟩
  | succ n ih =>
    intro hn
    obtain ⟨I1, I2⟩ := ih (by omega)
    have other : ∀ i m, i < 4 → i ≠ n → ch_se w d ps (n + 1) (m * 4 + i) = ch_se w d ps n (m * 4 + i) := by
      intro i m hi hin
      show upd (upd (ch_se w d ps n) (w * 4 + n) _) (d * 4 + n) 0 (m * 4 + i) = _
      rw [ch_un (by omega), ch_un (by omega)]
    refine ⟨fun i hi hiN => ?_, fun i hi hi4 m => ?_⟩
    · by_cases q : i = n
      · subst q
        have E1 : ∀ m, m < M → (ch_se w d ps (i + 1) (m * 4 + i)).toInt = ((ps (m * 4 + i)).toInt + (if m = w then (ps (d * 4 + i)).toInt else 0)) + (if m = d then -(ps (d * 4 + i)).toInt else 0) := by
          intro m _
          show (upd (upd (ch_se w d ps i) (w * 4 + i) (ch_se w d ps i (w * 4 + i) + ch_se w d ps i (d * 4 + i))) (d * 4 + i) 0 (m * 4 + i)).toInt = _
          by_cases c : m = d
          · subst c
            rw [ch_us, if_pos rfl, if_neg (fun y => hne y.symm), show (0 : Int32).toInt = 0 from by decide]; omega
          · rw [ch_un (by omega), if_neg c]
            by_cases e : m = w
            · subst e
              have a := ho (m * 4 + i)
              have b := ho (d * 4 + i)
              unfold ch_ab at a b
              rw [ch_us, if_pos rfl, I2 i (Nat.le_refl _) (by omega) m, I2 i (Nat.le_refl _) (by omega) d, ch_addI (by omega) (by omega)]; omega
            · rw [ch_un (by omega), if_neg e, I2 i (Nat.le_refl _) (by omega) m]; omega
        rw [ch_sIc M E1, ch_sIa, ch_sIa, hz i hiN, ch_sI1, ch_sI1, if_pos hw, if_pos hd]; omega
      · rw [ch_sIc (g := fun m => (ch_se w d ps n (m * 4 + i)).toInt) M (fun m _ => by
          show (ch_se w d ps (n + 1) (m * 4 + i)).toInt = _
          rw [other i m (by omega) q])]
        exact I1 i (by omega) hiN
    · rw [other i m hi4 (by omega)]; exact I2 i (by omega) hi4 m
theorem cp_GS {f : Nat → Nat} {q : Int32} (hv : ∃ j, j < M ∧ st j = 0) (h : ch_ab 2560000 q) (hfF : ∀ j, j < M → st j = 0 → f j ≤ ch_fs st f M) : ch_sI (fun m => (ch_G st f (ch_fs st f M) M q m).toInt) M = q.toInt := by
  have a := h.1
  have b := h.2
  have z0 : (0 : Int32).toInt = 0 := by decide
  by_cases c : ch_fs st f M = 0
  · cases fa : ch_fa st M with
    | none =>
      obtain ⟨j, hj, hs⟩ := hv
      exact absurd hs (ch_faN M fa j hj)
    | some s =>
      have sb := ch_faS M s fa
      rw [ch_sIc (g := fun m => if m = s then q.toInt else 0) M (fun m _ => by
        show (ch_G st f (ch_fs st f M) M q m).toInt = _
        unfold ch_G
        rw [if_pos c, fa]
        by_cases e : m = s
        · rw [e, if_pos rfl, if_pos rfl]
        · rw [if_neg (fun y => e (Option.some.inj y).symm), if_neg e, z0]), ch_sI1, if_pos sb.1]
  · have G := ch_gSum (st := st) (f := f) (A := q.toInt.natAbs) (M := M) (by omega)
    have GI := ch_sNI (ch_g st f q.toInt.natAbs (ch_fs st f M) M) M
    rw [G] at GI
    have tb : ∀ m, m < M → (nI (ch_g st f q.toInt.natAbs (ch_fs st f M) M m)).toInt = (ch_g st f q.toInt.natAbs (ch_fs st f M) M m : Int) := by
      intro m hm
      have := ch_gA (st := st) (f := f) (A := q.toInt.natAbs) (F := ch_fs st f M) hm (hfF m hm)
      exact nI_toInt (by omega)
    by_cases y : 0 ≤ q
    · have y' := Int32.le_iff_toInt_le.mp y
      rw [ch_sIc (g := fun m => (ch_g st f q.toInt.natAbs (ch_fs st f M) M m : Int)) M (fun m hm => by
        show (ch_G st f (ch_fs st f M) M q m).toInt = _
        unfold ch_G
        rw [if_neg c, if_pos y, Int32.one_mul, tb m hm]), GI]
      omega
    · have y' : ¬ 0 ≤ q.toInt := fun z => y (Int32.le_iff_toInt_le.mpr (by omega))
      rw [ch_sIc (g := fun m => (ch_g st f q.toInt.natAbs (ch_fs st f M) M m : Int) * (-1)) M (fun m hm => by
        show (ch_G st f (ch_fs st f M) M q m).toInt = _
        have gb := ch_gA (st := st) (f := f) (A := q.toInt.natAbs) (F := ch_fs st f M) hm (hfF m hm)
        have e : (-1 : Int32) * nI (ch_g st f q.toInt.natAbs (ch_fs st f M) M m) = ch_I (-(ch_g st f q.toInt.natAbs (ch_fs st f M) M m : Int)) := by
          rw [ch_In, show (-1 : Int32) = ch_I (-1) from by decide, ch_Imul]
          congr 1; omega
        unfold ch_G
        rw [if_neg c, if_neg y, e, ch_IT (by omega) (by omega)]; omega), ch_sIm, GI]
      omega
theorem cp_aaZ {f : Nat → Nat} {d : Nat} {B : Int} (hd : d < M) (h1 : ¬ st d = 0) (hv : ∃ j, j < M ∧ st j = 0) (hB : 0 ≤ B ∧ B ≤ 2560000) (ho : ∀ s, ch_ab B (ps s)) (hz : cp_Zs M N ps) :
    ∀ n, n ≤ 4 → (∀ i, i < n → i < N → ch_sI (fun m => (ch_aa (ch_G st f (ch_fs st f M) M) M d ps n (m * 4 + i)).toInt) M = 0) ∧ (∀ i, n ≤ i → i < 4 → ∀ m, ch_aa (ch_G st f (ch_fs st f M) M) M d ps n (m * 4 + i) = ps (m * 4 + i)) := by
  have hfF : ∀ j, j < M → st j = 0 → f j ≤ ch_fs st f M := fun j hj hs => ch_fsGe hj hs
  have Gd : ∀ q, ch_G st f (ch_fs st f M) M q d = 0 := by
    intro q
    unfold ch_G
    split
    · split
      · next y => exact absurd (ch_faS M d y).2.1 h1
      · rfl
    · rw [ch_gN h1]; exact Int32.mul_zero
  intro n
  induction n with
  | zero => intro _; exact ⟨fun i h => absurd h (Nat.not_lt_zero _), fun i _ _ m => rfl⟩
  | succ n ih =>
    intro hn
    obtain ⟨I1, I2⟩ := ih (by omega)
    have other : ∀ i m, i < 4 → i ≠ n → ch_aa (ch_G st f (ch_fs st f M) M) M d ps (n + 1) (m * 4 + i) = ch_aa (ch_G st f (ch_fs st f M) M) M d ps n (m * 4 + i) := by
      intro i m hi hin
      show upd (ch_al _ n (ch_aa (ch_G st f (ch_fs st f M) M) M d ps n) M) (d * 4 + n) 0 (m * 4 + i) = _
      rw [ch_un (by omega), ch_alE (by omega), if_neg (fun y => by have := y.1; omega)]
    refine ⟨fun i hi hiN => ?_, fun i hi hi4 m => ?_⟩
    · by_cases q : i = n
      · subst q
        have od := ch_abM (ho (d * 4 + i)) hB.2
        have S := cp_GS (f := f) hv od hfF
        have E1 : ∀ m, m < M → (ch_aa (ch_G st f (ch_fs st f M) M) M d ps (i + 1) (m * 4 + i)).toInt = ((ps (m * 4 + i)).toInt + (ch_G st f (ch_fs st f M) M (ps (d * 4 + i)) m).toInt) + (if m = d then -(ps (d * 4 + i)).toInt else 0) := by
          intro m hm
          show (upd (ch_al (ch_G st f (ch_fs st f M) M (ch_aa (ch_G st f (ch_fs st f M) M) M d ps i (d * 4 + i))) i (ch_aa (ch_G st f (ch_fs st f M) M) M d ps i) M) (d * 4 + i) 0 (m * 4 + i)).toInt = _
          by_cases c : m = d
          · subst c
            rw [ch_us, if_pos rfl, Gd, show (0 : Int32).toInt = 0 from by decide]; omega
          · have e4 : (m * 4 + i) / 4 = m := by omega
            rw [ch_un (by omega), if_neg c, ch_alE (by omega), if_pos ⟨by omega, by omega⟩, e4, I2 i (Nat.le_refl _) (by omega) m, I2 i (Nat.le_refl _) (by omega) d]
            have a := ho (m * 4 + i)
            have b := ch_GB hfF hB.2 _ (ho (d * 4 + i)) m hm
            unfold ch_ab at a b
            rw [ch_addI (by omega) (by omega)]; omega
        rw [ch_sIc M E1, ch_sIa, ch_sIa, hz i hiN, ch_sI1, if_pos hd, S]; omega
      · rw [ch_sIc (g := fun m => (ch_aa (ch_G st f (ch_fs st f M) M) M d ps n (m * 4 + i)).toInt) M (fun m _ => by
          show (ch_aa (ch_G st f (ch_fs st f M) M) M d ps (n + 1) (m * 4 + i)).toInt = _
          rw [other i m (by omega) q])]
        exact I1 i (by omega) hiN
    · rw [other i m hi4 (by omega)]; exact I2 i (by omega) hi4 m
theorem cp_inv2 {d : Nat} {ca1 : Nat → Int64} {ps1 : Nat → Int32} (hc : ch_Cn M N R) (hk : k + 5 ≤ 2564) (hd : d < M) (h1 : st d = 1) (hn : ∀ j, j < M → j ≠ d → ¬ st j = 1) (hf : ch_Fd k fu) (hl : 0 ≤ (ch_ls (ca1 d)).toInt) (ha : ch_Ca (k + 5) ca1) (ho : ∀ s, ch_ab (2 * ch_pb st M) (ps1 s)) (hr : ch_Pr cu se) (hz : cp_Zs M N ps1) (he : H + ch_sL ca1 M + ch_sL fu M = E) :
    cp_IX (k + 5) M N R E (ch_H3 st H fu M d (ch_ls (ca1 d))) (-1) (upd st d 2) (ch_c2 ca1 d) (ch_F3 st H fu M d (ch_ls (ca1 d))) (fun _ => 0) ba ps1 cu se := by
  refine ⟨hc, Or.inl ⟨rfl, fun j hj => ?_⟩, ⟨fun j _ => rfl, fun j hj => absurd rfl hj⟩, ?_, ch_c2B ha, fun s => ?_, hr, hz, ?_, Or.inl rfl⟩
  · by_cases q : j = d
    · rw [q, ch_us]; decide
    · rw [ch_un q]; exact hn j hj q
  · exact ch_FdU (ch_f3B hc.1.2 (by omega) (ch_f2B hl hf) (ch_r2B hl (hf d).1)) (by omega)
  · have e : ch_pb (upd st d 2) M = 2 * ch_pb st M := by
      unfold ch_pb
      rw [ch_cdS (by rw [h1]; decide) M hd, Nat.pow_succ]
      omega
    rw [e]; exact ho s
  · rw [cp_consC (k := k) hc.1.2 (by omega) hd hf hl]; exact he
theorem cp_close {u : St2} {post : Int32 → St2 → Prop} (I : cp_RX k M N R E u) (hk : k + 5 ≤ 2564) (hq : ∀ r u', cp_RX (k + 5) M N R E u' → post r u') : wpX_closeAuction post u := by
  have J := fun r => hq r _ (cp_up I (show k ≤ k + 5 by omega))
  obtain ⟨H, fd, st, ca, fu, mc, hb, ba, ps, cu, se, wf, pa, rfl, hc, hp, hi, hf, ha, ho, hr, hz, he, hs⟩ := I
  have hM := hc.1.2
  have hN := hc.2.1.2
  rcases id hp with ⟨e, hn⟩ | ⟨d, hd, e, h1, hn⟩
  · exact br_t e (br_t rfl (J _))
  subst e
  have z : ¬ nI d = -1 := ch_ne1 (by omega)
  have hv : ∃ j, j < M ∧ st j = 0 := by
    rcases hs with q | q
    · exact absurd q z
    · exact q
  have pbB := ch_pbB (st := st) hM
  have fB := (ch_fsL (st := st) hM (by omega) hf).2
  have d0 : ¬ st d = 0 := by rw [h1]; decide
  refine br_f z (br_f ch_n10 (ch_xHB hM ?_))
  cases eb : ch_bs hb ba M with
  | none =>
    have c0 : -9000000000000000000 ≤ (ca d).toInt := by have := (ha d).1; omega
    have C := ch_colAll (by omega) (ch_aaCol (G := ch_G st (ch_fn fu) (ch_fs st (ch_fn fu) M) M) (M := M) (d := d) (B := ch_pb st M) (by omega) (by omega) (fun q h m hm => ch_GB (fun j hj hs => ch_fsGe hj hs) pbB.2 q h m hm) ho N hN)
    have Z : cp_Zs M N (ch_aa (ch_G st (ch_fn fu) (ch_fs st (ch_fn fu) M) M) M d ps N) := fun i hi => (cp_aaZ (f := ch_fn fu) (B := ch_pb st M) hd d0 hv ⟨by omega, by omega⟩ ho hz N hN).1 i hi hi
    refine br_t rfl (ch_xAl (f := ch_fn fu) (B := ch_pb st M) hM hN (by omega) (ch_fnE hf) fB ⟨by omega, by omega⟩ ho (fun pa' => ?_))
    exact ch_x49 (k := k) hM (by omega) (by omega) hf c0 hi.1 (fun a => hq _ _ (cp_mk (cp_inv2 hc hk hd h1 hn hf (ch_lsB c0) (ch_CaU ha (by omega)) C hr Z he)))
  | some w =>
    have wb := ch_bsB M w eb
    have hw := hi.2 w wb.2
    have hwd : w ≠ d := fun y => d0 (by rw [← y]; exact hw.1)
    have ca1 := ch_seC (d := d) (w := w) (x := ba w) hk ha hw.2
    have c0 : -9000000000000000000 ≤ (vp_updL (vp_updL ca w (ca w - (ba w).toInt64)) d (vp_updL ca w (ca w - (ba w).toInt64) d + (ba w).toInt64) d).toInt := by have := (ca1 d).1; omega
    have C := ch_colAll (by omega) (ch_seCol (w := w) (d := d) (B := ch_pb st M) (by omega) (by omega) ho N hN)
    have Z : cp_Zs M N (ch_se w d ps N) := fun i hi => (cp_seZ (B := ch_pb st M) wb.1 hd hwd ⟨by omega, by omega⟩ ho hz N hN).1 i hi hi
    have w8 : vp_in (nI w) 8 := vp_in_nI (by omega) (by omega)
    have cw : (nI w).toNatClampNeg = w := nI_clamp (by omega)
    have cv : H + ch_sL (vp_updL (vp_updL ca w (ca w - (ba w).toInt64)) d (vp_updL ca w (ca w - (ba w).toInt64) d + (ba w).toInt64)) M + ch_sL fu M = E := by
      rw [ch_sLu, if_pos hd, ch_sLu, if_pos wb.1, ← he]; grind
    refine br_f (ch_ne2 (a := w) (by omega)) ⟨w8, nm_r (e' := ba w) (by show ba (nI w).toNatClampNeg = ba w; rw [cw]) ?_⟩
    refine ch_xSe (d := d) (w := w) hN (by omega) (by omega) ?_
    exact ch_x49 (k := k) hM (by omega) (by omega) hf c0 hi.1 (fun a => hq _ _ (cp_mk (cp_inv2 hc hk hd h1 hn hf (ch_lsB c0) ca1 C hr Z cv)))
end CPB
