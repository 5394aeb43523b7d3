section CHK
/-! L: the loss and the waterfall; the auction's end -/
variable {M N R : Nat} {H : Int64} {fd : Int32} {st : Nat → Int32} {ca fu mc : Nat → Int64} {hb ba : Nat → Int32} {bb : Nat → Int64} {ps cu se : Nat → Int32} {wf pa pb : Nat → Int64}
/-- the funds once the survivors have paid -/
def ch_f3 (st : Nat → Int32) (fu : Nat → Int64) (M : Nat) (r : Int64) : Nat → Int64 := fun j =>
  if r < lN (ch_fs st (ch_fn fu) M) then (if j < M then fu j - lN (ch_g st (ch_fn fu) r.toInt.toNat (ch_fs st (ch_fn fu) M) M j) else fu j)
  else (if j < M ∧ st j = 0 then 0 else fu j)
def ch_t3 (st : Nat → Int32) (fu : Nat → Int64) (M : Nat) (r : Int64) : Int64 := if r < lN (ch_fs st (ch_fn fu) M) then r else lN (ch_fs st (ch_fn fu) M)
theorem ch_rN {r : Int64} (h : 0 ≤ r.toInt) : r = lN r.toInt.toNat := by
  have b := r.toInt_lt
  apply Int64.toInt_inj.mp
  rw [pk_lT (by omega)]
  omega
theorem ch_fsL {k : Nat} (hM : M ≤ 8) (hk : k ≤ 2564) (h : ch_Fd k fu) : ch_fs st (ch_fn fu) M < 4294967296 ∧ ∀ j, ch_fn fu j < 536870912 := by
  have a := ch_fnB h
  have b := ch_fsB (st := st) (f := ch_fn fu) (B := 512800000) (fun j => by have := a j; omega) M
  exact ⟨by omega, fun j => by have := a j; omega⟩
theorem ch_xCS {post : Int64 → St2 → Prop} {k : Nat} {r : Int64} (hM : M ≤ 8) (hk : k ≤ 2564) (hf : ch_Fd k fu) (hr : 0 ≤ r.toInt) (hp : ∀ pa', post (ch_t3 st fu M r) ((nI M), (nI N), (nI R), H, fd, st, ca, ch_f3 st fu M r, mc, hb, ba, ps, cu, se, wf, pa')) : wpX_chargeSurvivors post ((nI M), (nI N), (nI R), H, fd, st, ca, fu, mc, hb, ba, ps, cu, se, wf, pa) r := by
  have fe := ch_fnE hf
  obtain ⟨FB, fB⟩ := ch_fsL (st := st) hM hk hf
  have hfF : ∀ j, j < M → st j = 0 → ch_fn fu j ≤ ch_fs st (ch_fn fu) M := fun j hj hs => ch_fsGe hj hs
  refine ch_xFs hM fe ?_
  by_cases c : r < lN (ch_fs st (ch_fn fu) M)
  · have e3 : ch_t3 st fu M r = r := if_pos c
    rw [e3] at hp
    have er := ch_rN hr
    have rB : r.toInt.toNat < ch_fs st (ch_fn fu) M := by
      have := c
      rw [er, pk_lLT (by have := r.toInt_lt; omega) (by omega)] at this
      exact this
    refine br_t c ?_
    have S : ∀ p0, p0 = lN r.toInt.toNat → wpX_splitProRata (fun u => match u with | (fm, fi, fr, H, fd, st, ca, fu, mc, hb, ba, ps, cu, se, wf, pa) => (∃ n26 : Nat, wX_chargeSurvivors_26 post r fm fi fr H fd n26 0 st ca fu mc hb ba ps cu se wf pa)) ((nI M), (nI N), (nI R), H, fd, st, ca, fu, mc, hb, ba, ps, cu, se, wf, pa) p0 (lN (ch_fs st (ch_fn fu) M)) := by
      intro p0 hp0
      rw [hp0]
      refine ch_xSp (f := ch_fn fu) hM fe (by omega) (by omega) FB hfF fB (fun pa' hpa => ?_)
      have L : ∀ n m (F : Nat → Int64), m + n = M → (∀ j, F j = if j < m then fu j - lN (ch_g st (ch_fn fu) r.toInt.toNat (ch_fs st (ch_fn fu) M) M j) else fu j) → wX_chargeSurvivors_26 post r (nI M) (nI N) (nI R) H fd (n + 1) (nI m) st ca F mc hb ba ps cu se wf pa' := by
        intro n
        induction n with
        | zero =>
          intro m F hm hF
          obtain rfl : m = M := by omega
          obtain rfl : F = ch_f3 st fu m r := by
            funext j
            rw [hF j]
            exact (if_pos c).symm
          exact br_t (Int32.le_refl _) (hp pa')
        | succ n ih =>
          intro m F hm hF
          have i8 : vp_in (nI m) 8 := vp_in_nI (by omega) (by omega)
          refine br_f (nI_ge (by omega) (by omega)) ⟨i8, i8, i8, nm_r (by rw [nI_clamp (by omega)]) (nm_r (nI_1 m) (ih (m + 1) _ (by omega) (fun j => ?_)))⟩
          by_cases q : j = m
          · rw [q, ch_uLs, hF m, if_neg (Nat.lt_irrefl m), if_pos (Nat.lt_succ_self m), hpa m (by omega)]
          · rw [ch_uLn q, hF j]
            by_cases z : j < m
            · rw [if_pos z, if_pos (by omega)]
            · rw [if_neg z, if_neg (by omega)]
      exact ⟨M + 1, L M 0 fu (by omega) (fun j => by rw [if_neg (Nat.not_lt_zero j)])⟩
    exact S r er
  · have e3 : ch_t3 st fu M r = lN (ch_fs st (ch_fn fu) M) := if_neg c
    rw [e3] at hp
    refine br_f c ?_
    have L : ∀ n m (F : Nat → Int64), m + n = M → (∀ j, F j = if j < m ∧ st j = 0 then 0 else fu j) → wX_emptySurvivorFunds_2 (fun u => match u with | (fm, fi, fr, H, fd, st', ca, fu', mc, hb, ba, ps, cu, se, wf, pa) => (post (lN (ch_fs st (ch_fn fu) M)) (fm, fi, fr, H, fd, st', ca, fu', mc, hb, ba, ps, cu, se, wf, pa))) (nI M) (nI N) (nI R) H fd (n + 1) (nI m) st ca F mc hb ba ps cu se wf pa := by
      intro n
      induction n with
      | zero =>
        intro m F hm hF
        obtain rfl : m = M := by omega
        obtain rfl : F = ch_f3 st fu m r := by
          funext j
          rw [hF j]
          exact (if_neg c).symm
        exact br_t (Int32.le_refl _) (hp pa)
      | succ n ih =>
        intro m F hm hF
        have i8 : vp_in (nI m) 8 := vp_in_nI (by omega) (by omega)
        have c8 : (nI m).toNatClampNeg = m := nI_clamp (by omega)
        refine br_f (nI_ge (by omega) (by omega)) ⟨i8, ?_⟩
        by_cases s0 : st m = 0
        · refine br_t (by rw [c8]; exact s0) ⟨i8, nm_r (by rw [c8]) (nm_r (nI_1 m) (ih (m + 1) _ (by omega) (fun j => ?_)))⟩
          by_cases q : j = m
          · rw [q, ch_uLs, if_pos ⟨Nat.lt_succ_self m, s0⟩]
          · rw [ch_uLn q, hF j]
            by_cases z : j < m ∧ st j = 0
            · rw [if_pos z, if_pos ⟨by omega, z.2⟩]
            · have z' : ¬ (j < m + 1 ∧ st j = 0) := fun y => z ⟨by omega, y.2⟩
              rw [if_neg z, if_neg z']
        · refine br_f (by rw [c8]; exact s0) (nm_r (nI_1 m) (ih (m + 1) F (by omega) (fun j => ?_)))
          rw [hF j]
          by_cases z : j < m ∧ st j = 0
          · rw [if_pos z, if_pos ⟨by omega, z.2⟩]
          · have z' : ¬ (j < m + 1 ∧ st j = 0) := by
              intro y
              by_cases q : j = m
              · rw [q] at y; exact s0 y.2
              · exact z ⟨by omega, y.2⟩
            rw [if_neg z, if_neg z']
    exact ⟨M + 1, L M 0 fu (by omega) (fun j => by rw [if_neg (fun y => Nat.not_lt_zero j y.1)])⟩
/-! the amounts of the waterfall, as both sides reckon them -/
def ch_ls (c : Int64) : Int64 := if 0 ≤ c then 0 else -c
def ch_c2 (ca : Nat → Int64) (d : Nat) : Nat → Int64 := if 0 ≤ ca d then ca else vp_updL ca d 0
def ch_t1 (l f : Int64) : Int64 := if f ≤ l then f else l
def ch_t2 (H r : Int64) : Int64 := if H ≤ 0 then 0 else if H ≤ r then H else r
def ch_f2 (fu : Nat → Int64) (d : Nat) (l : Int64) : Nat → Int64 := vp_updL fu d (fu d - ch_t1 l (fu d))
def ch_r1 (fu : Nat → Int64) (d : Nat) (l : Int64) : Int64 := l - ch_t1 l (fu d)
def ch_r2 (H : Int64) (fu : Nat → Int64) (d : Nat) (l : Int64) : Int64 := ch_r1 fu d l - ch_t2 H (ch_r1 fu d l)
def ch_T3 (st : Nat → Int32) (H : Int64) (fu : Nat → Int64) (M d : Nat) (l : Int64) : Int64 := ch_t3 st (ch_f2 fu d l) M (ch_r2 H fu d l)
def ch_F3 (st : Nat → Int32) (H : Int64) (fu : Nat → Int64) (M d : Nat) (l : Int64) : Nat → Int64 := ch_f3 st (ch_f2 fu d l) M (ch_r2 H fu d l)
def ch_T4 (st : Nat → Int32) (H : Int64) (fu : Nat → Int64) (M d : Nat) (l : Int64) : Int64 := ch_r2 H fu d l - ch_T3 st H fu M d l
def ch_H3 (st : Nat → Int32) (H : Int64) (fu : Nat → Int64) (M d : Nat) (l : Int64) : Int64 := H - ch_t2 H (ch_r1 fu d l) - ch_T4 st H fu M d l
def ch_W5 (st : Nat → Int32) (H : Int64) (fu : Nat → Int64) (M d : Nat) (l : Int64) (wf : Nat → Int64) : Nat → Int64 :=
  vp_updL (vp_updL (vp_updL (vp_updL (vp_updL wf 0 l) 1 (ch_t1 l (fu d))) 2 (ch_t2 H (ch_r1 fu d l))) 3 (ch_T3 st H fu M d l)) 4 (ch_T4 st H fu M d l)
theorem ch_l0 {l f : Int64} (hl : 0 ≤ l.toInt) (hf : 0 ≤ f.toInt) : 0 ≤ (ch_t1 l f).toInt ∧ (ch_t1 l f).toInt ≤ l.toInt ∧ (ch_t1 l f).toInt ≤ f.toInt := by
  unfold ch_t1
  split
  · next h => have := Int64.le_iff_toInt_le.mp h; omega
  · next h =>
    rw [Int64.le_iff_toInt_le] at h; omega
theorem ch_r1B {d : Nat} {l : Int64} (hl : 0 ≤ l.toInt) (hf : 0 ≤ (fu d).toInt) : 0 ≤ (ch_r1 fu d l).toInt := by
  have a := ch_l0 hl hf
  have b := l.toInt_lt
  unfold ch_r1
  rw [ch_subL (by omega) (by omega)]
  omega
theorem ch_t2B {r : Int64} (hr : 0 ≤ r.toInt) : 0 ≤ (ch_t2 H r).toInt ∧ (ch_t2 H r).toInt ≤ r.toInt := by
  have z : (0 : Int64).toInt = 0 := by decide
  unfold ch_t2
  split
  · omega
  · next h =>
    rw [Int64.le_iff_toInt_le, z] at h
    split
    · next h' => have := Int64.le_iff_toInt_le.mp h'; omega
    · omega
theorem ch_r2B {d : Nat} {l : Int64} (hl : 0 ≤ l.toInt) (hf : 0 ≤ (fu d).toInt) : 0 ≤ (ch_r2 H fu d l).toInt := by
  have a := ch_r1B hl hf
  have b := ch_t2B (H := H) a
  have c := (ch_r1 fu d l).toInt_lt
  unfold ch_r2
  rw [ch_subL (by omega) (by omega)]
  omega
theorem ch_f2B {k d : Nat} {l : Int64} (hl : 0 ≤ l.toInt) (hf : ch_Fd k fu) : ch_Fd k (ch_f2 fu d l) := by
  have a := hf d
  have b := ch_l0 hl a.1
  have c := (fu d).toInt_lt
  refine ch_uLAll (P := fun x => 0 ≤ x.toInt ∧ x.toInt ≤ 200000 * (k : Int)) hf ?_
  show 0 ≤ (fu d - ch_t1 l (fu d)).toInt ∧ (fu d - ch_t1 l (fu d)).toInt ≤ _
  rw [ch_subL (by omega) (by omega)]
  omega
theorem ch_f3B {k : Nat} {r : Int64} (hM : M ≤ 8) (hk : k ≤ 2564) (hf : ch_Fd k fu) (hr : 0 ≤ r.toInt) : ch_Fd k (ch_f3 st fu M r) := by
  obtain ⟨FB, fB⟩ := ch_fsL (st := st) hM hk hf
  have z0 : (0 : Int64).toInt = 0 := by decide
  intro j
  have a := hf j
  unfold ch_f3
  split
  · next c =>
    split
    · have rB : r.toInt.toNat < ch_fs st (ch_fn fu) M := by
        have e := ch_rN hr
        rw [e, pk_lLT (by have := r.toInt_lt; omega) (by omega)] at c
        exact c
      have g := ch_gF (st := st) (f := ch_fn fu) (A := r.toInt.toNat) (F := ch_fs st (ch_fn fu) M) (M := M) (j := j) rB
      have e : ch_fn fu j = (fu j).toInt.toNat := rfl
      have gt : (lN (ch_g st (ch_fn fu) r.toInt.toNat (ch_fs st (ch_fn fu) M) M j)).toInt = (ch_g st (ch_fn fu) r.toInt.toNat (ch_fs st (ch_fn fu) M) M j : Int) := pk_lT (by have := fB j; omega)
      have h1 := (fu j).toInt_lt
      rw [ch_subL (by rw [gt]; omega) (by rw [gt]; omega), gt]
      omega
    · exact a
  · split
    · omega
    · exact a
theorem ch_x79 {post : St2 → Prop} {k d : Nat} {l : Int64} (hM : M ≤ 8) (hk : k ≤ 2564) (hf : ch_Fd k fu) (hl : 0 ≤ l.toInt)
    (hp : ∀ pa', post ((nI M), (nI N), (nI R), ch_H3 st H fu M d l, fd, st, ca, ch_F3 st H fu M d l, mc, hb, ba, ps, cu, se, ch_W5 st H fu M d l wf, pa')) :
    wX_chargeLoss_79 post l (ch_t1 l (fu d)) (ch_r1 fu d l) (ch_t2 H (ch_r1 fu d l)) (nI M) (nI N) (nI R) H fd st ca (ch_f2 fu d l) mc hb ba ps cu se wf pa := by
  refine nm_e (nm_e (ch_xCS (k := k) hM hk (ch_f2B hl hf) (ch_r2B hl (hf d).1) (fun pa' => ?_)))
  exact nm_e (nm_e (nm_e (nm_e (nm_e (nm_e (nm_e (hp pa')))))))
theorem ch_x28 {post : St2 → Prop} {k d : Nat} {l : Int64} (hM : M ≤ 8) (hd : d < 8) (hk : k ≤ 2564) (hf : ch_Fd k fu) (hl : 0 ≤ l.toInt)
    (hp : ∀ pa', post ((nI M), (nI N), (nI R), ch_H3 st H fu M d l, fd, st, ca, ch_F3 st H fu M d l, mc, hb, ba, ps, cu, se, ch_W5 st H fu M d l wf, pa')) :
    wX_chargeLoss_28 post (nI d) l (nI M) (nI N) (nI R) H fd st ca fu mc hb ba ps cu se wf pa := by
  have d8 : vp_in (nI d) 8 := vp_in_nI (by omega) (by omega)
  have c8 : (nI d).toNatClampNeg = d := nI_clamp (by omega)
  have Z := ch_x79 (wf := wf) (ca := ca) (mc := mc) (hb := hb) (ba := ba) (ps := ps) (cu := cu) (se := se) (pa := pa) (N := N) (R := R) (fd := fd) hM hk hf hl hp
  have rest : ∀ r4, r4 = ch_t1 l (fu d) → (vp_in (nI d) 8 ∧ (vp_in (nI d) 8 ∧ ∀ a_fund_7 : Nat → Int64, a_fund_7 = vp_updL fu (nI d).toNatClampNeg ((fu (nI d).toNatClampNeg) - r4) → (∀ x6_8 : Int64, x6_8 = l - r4 → (((H ≤ 0 → (wX_chargeLoss_79 post l r4 x6_8 0 (nI M) (nI N) (nI R) H fd st ca a_fund_7 mc hb ba ps cu se wf pa)) ∧ (¬ H ≤ 0 → (wpX_lesser (fun r_41 => (wX_chargeLoss_79 post l r4 x6_8 r_41 (nI M) (nI N) (nI R) H fd st ca a_fund_7 mc hb ba ps cu se wf pa)) () x6_8 H))))))) := by
    intro r4 h4
    subst h4
    refine ⟨d8, d8, nm_r (e' := ch_f2 fu d l) (by rw [c8]; rfl) (nm_r (e' := ch_r1 fu d l) rfl ?_)⟩
    by_cases h0 : H ≤ 0
    · rw [show ch_t2 H (ch_r1 fu d l) = 0 from if_pos h0] at Z
      exact br_t h0 Z
    · refine br_f h0 ?_
      by_cases h1 : H ≤ ch_r1 fu d l
      · rw [show ch_t2 H (ch_r1 fu d l) = H from (if_neg h0).trans (if_pos h1)] at Z
        exact br_t h1 Z
      · rw [show ch_t2 H (ch_r1 fu d l) = ch_r1 fu d l from (if_neg h0).trans (if_neg h1)] at Z
        exact br_f h1 Z
  refine ⟨d8, ?_⟩
  by_cases c : fu d ≤ l
  · exact br_t (by rw [c8]; exact c) (rest _ (by rw [c8]; exact (if_pos c).symm))
  · exact br_f (by rw [c8]; exact c) (rest _ (if_neg c).symm)
theorem ch_xCL {post : St2 → Prop} {k d : Nat} (hM : M ≤ 8) (hd : d < 8) (hk : k ≤ 2564) (hf : ch_Fd k fu) (hc : -9000000000000000000 ≤ (ca d).toInt)
    (hp : ∀ pa', post ((nI M), (nI N), (nI R), ch_H3 st H fu M d (ch_ls (ca d)), fd, st, ch_c2 ca d, ch_F3 st H fu M d (ch_ls (ca d)), mc, hb, ba, ps, cu, se, ch_W5 st H fu M d (ch_ls (ca d)) wf, pa')) : wpX_chargeLoss post ((nI M), (nI N), (nI R), H, fd, st, ca, fu, mc, hb, ba, ps, cu, se, wf, pa) (nI d) := by
  have d8 : vp_in (nI d) 8 := vp_in_nI (by omega) (by omega)
  have c8 : (nI d).toNatClampNeg = d := nI_clamp (by omega)
  have z0 : (0 : Int64).toInt = 0 := by decide
  refine ⟨d8, ?_⟩
  by_cases c : 0 ≤ ca d
  · rw [show ch_ls (ca d) = 0 from if_pos c, show ch_c2 ca d = ca from if_pos c] at hp
    exact br_t (by rw [c8]; exact c) (ch_x28 hM hd hk hf (by omega) hp)
  · rw [show ch_ls (ca d) = -(ca d) from if_neg c, show ch_c2 ca d = vp_updL ca d 0 from if_neg c] at hp
    have c' := c
    rw [Int64.le_iff_toInt_le, z0] at c'
    exact br_f (by rw [c8]; exact c) ⟨d8, nm_r (by rw [c8]) ⟨d8, nm_r (by rw [c8]) (ch_x28 hM hd hk hf (by rw [ch_negL (by omega)]; omega) hp)⟩⟩
theorem ch_x49 {post : Int32 → St2 → Prop} {k d : Nat} {x2 x3 : Int32} (hM : M ≤ 8) (hd : d < 8) (hk : k ≤ 2564) (hf : ch_Fd k fu) (hc : -9000000000000000000 ≤ (ca d).toInt) (hh : ∀ j, M ≤ j → hb j = 0)
    (hp : ∀ pa', post 1 ((nI M), (nI N), (nI R), ch_H3 st H fu M d (ch_ls (ca d)), (-1), upd st d 2, ch_c2 ca d, ch_F3 st H fu M d (ch_ls (ca d)), mc, (fun _ => 0), ba, ps, cu, se, vp_updL (vp_updL (ch_W5 st H fu M d (ch_ls (ca d)) wf) 5 x2.toInt64) 6 x3.toInt64, pa')) : wX_closeAuction_49 post (nI d) x2 x3 (nI M) (nI N) (nI R) H fd st ca fu mc hb ba ps cu se wf pa := by
  have d8 : vp_in (nI d) 8 := vp_in_nI (by omega) (by omega)
  have c8 : (nI d).toNatClampNeg = d := nI_clamp (by omega)
  refine ch_xCL hM hd hk hf hc (fun pa' => ?_)
  exact nm_e (nm_e ⟨d8, nm_r (by rw [c8]) (ch_xCB hM hh (hp pa'))⟩)
/-! the reference -/
end CHK
