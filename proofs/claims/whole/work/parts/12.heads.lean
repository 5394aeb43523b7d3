section CHL
/-! M: the bidder, the auction's end, the start -/
variable {M N R : Nat} {H : Int64} {fd : Int32} {st : Nat → Int32} {ca fu mc : Nat → Int64} {hb ba : Nat → Int32} {bb : Nat → Int64} {ps cu se : Nat → Int32} {wf pa pb : Nat → Int64}
def ch_bs (hb ba : Nat → Int32) : Nat → Option Nat
  | 0 => none
  | m + 1 => if hb m = 0 then ch_bs hb ba m else (match ch_bs hb ba m with | none => some m | some w => if ba m ≤ ba w then some w else some m)
theorem ch_bsB : ∀ m w, ch_bs hb ba m = some w → w < m ∧ ¬ hb w = 0 := by
  intro m
  induction m with
  | zero => intro w h; cases h
  | succ m ih =>
    intro w h
    unfold ch_bs at h
    by_cases q : hb m = 0
    · rw [if_pos q] at h
      have := ih w h
      exact ⟨by omega, this.2⟩
    · rw [if_neg q] at h
      cases e : ch_bs hb ba m with
      | none =>
        rw [e] at h
        cases h
        exact ⟨by omega, q⟩
      | some t =>
        rw [e] at h
        by_cases c : ba m ≤ ba t
        · have h' : some t = some w := by rw [← h]; exact (if_pos c).symm
          cases h'
          have := ih _ e
          exact ⟨by omega, this.2⟩
        · have h' : some m = some w := by rw [← h]; exact (if_neg c).symm
          cases h'
          exact ⟨by omega, q⟩
def ch_ox (x : Int32) : Option Nat → Int32
  | none => x
  | some w => nI w
theorem ch_ne2 {a : Nat} (h : a < 2 ^ 31) : ¬ nI a = -2 := by
  intro e
  have := nI_pos (n := a) h
  rw [e] at this
  exact this (by decide)
theorem ch_bs0 {m : Nat} (h : hb m = 0) : ch_bs hb ba (m + 1) = ch_bs hb ba m := if_pos h
theorem ch_bs1 {m : Nat} (h : ¬ hb m = 0) (e : ch_bs hb ba m = none) : ch_bs hb ba (m + 1) = some m := by
  show (if hb m = 0 then ch_bs hb ba m else (match ch_bs hb ba m with | none => some m | some w => if ba m ≤ ba w then some w else some m)) = _
  rw [if_neg h, e]
theorem ch_bs2 {m w : Nat} (h : ¬ hb m = 0) (e : ch_bs hb ba m = some w) (c : ba m ≤ ba w) : ch_bs hb ba (m + 1) = some w := by
  show (if hb m = 0 then ch_bs hb ba m else (match ch_bs hb ba m with | none => some m | some w => if ba m ≤ ba w then some w else some m)) = _
  rw [if_neg h, e]
  exact if_pos c
theorem ch_bs3 {m w : Nat} (h : ¬ hb m = 0) (e : ch_bs hb ba m = some w) (c : ¬ ba m ≤ ba w) : ch_bs hb ba (m + 1) = some m := by
  show (if hb m = 0 then ch_bs hb ba m else (match ch_bs hb ba m with | none => some m | some w => if ba m ≤ ba w then some w else some m)) = _
  rw [if_neg h, e]
  exact if_neg c
theorem ch_xHB {post : Int32 → Prop} (hM : M ≤ 8) (hp : post (ch_ox (-2) (ch_bs hb ba M))) : wpX_highestBidder post ((nI M), (nI N), (nI R), H, fd, st, ca, fu, mc, hb, ba, ps, cu, se, wf, pa) := by
  have L : ∀ n m, m + n = M → wX_highestBidder_5 post (nI M) (nI N) (nI R) H fd st ca fu mc hb ba ps cu se wf pa (n + 1) (ch_ox (-2) (ch_bs hb ba m)) (nI m) := by
    intro n
    induction n with
    | zero =>
      intro m hm
      obtain rfl : m = M := by omega
      exact br_t (Int32.le_refl _) hp
    | succ n ih =>
      intro m hm
      have i8 : vp_in (nI m) 8 := vp_in_nI (by omega) (by omega)
      have c8 : (nI m).toNatClampNeg = m := nI_clamp (by omega)
      have z := ih (m + 1) (by omega)
      refine br_f (nI_ge (by omega) (by omega)) ⟨i8, ?_⟩
      by_cases q : hb m = 0
      · rw [ch_bs0 q] at z
        exact br_t (by rw [c8]; exact q) (nm_r (nI_1 m) z)
      · refine br_f (by rw [c8]; exact q) ?_
        cases e : ch_bs hb ba m with
        | none =>
          rw [ch_bs1 q e] at z
          exact br_t rfl (nm_r (nI_1 m) z)
        | some w =>
          have wb := ch_bsB m w e
          have w8 : vp_in (nI w) 8 := vp_in_nI (by omega) (by omega)
          have cw : (nI w).toNatClampNeg = w := nI_clamp (by omega)
          refine br_f (ch_ne2 (a := w) (by omega)) ⟨i8, w8, ?_⟩
          have cc : (ba (nI m).toNatClampNeg ≤ ba (nI w).toNatClampNeg) ↔ ba m ≤ ba w := by rw [c8, cw]
          by_cases c : ba m ≤ ba w
          · rw [ch_bs2 q e c] at z
            exact br_t (cc.mpr c) (nm_r (nI_1 m) z)
          · rw [ch_bs3 q e c] at z
            exact br_f (fun y => c (cc.mp y)) (nm_r (nI_1 m) z)
  exact ⟨M + 1, L M 0 (by omega)⟩
theorem ch_yHB {post : Int32 → SY → Prop} {d : Nat} (hM : M ≤ 8) (hi : ch_Bi M hb ba bb) (h0 : ch_bs hb ba M = none → ∃ n, wY_closeAuction_154 post (nI d) (-1) 0 n 0 (nI M) (nI N) (nI R) H st ca fu mc ps hb bb cu se wf pb) (h1 : ∀ w, ch_bs hb ba M = some w → ∃ n, wY_closeAuction_76 post (nI d) (nI w) (bb w) (nI M) (nI N) (nI R) H n 0 st ca fu mc ps hb bb cu se wf pb) : ∃ n, wY_closeAuction_15 post (nI d) (nI M) (nI N) (nI R) H st ca fu mc ps hb bb cu se wf pb n (-1) 0 := by
  have L : ∀ n m, m + n = M → wY_closeAuction_15 post (nI d) (nI M) (nI N) (nI R) H st ca fu mc ps hb bb cu se wf pb (n + 1) (ch_ox (-1) (ch_bs hb ba m)) (nI m) := by
    intro n
    induction n with
    | zero =>
      intro m hm
      obtain rfl : m = M := by omega
      refine br_t (Int32.le_refl _) ?_
      cases e : ch_bs hb ba m with
      | none => exact br_t ch_m1 (h0 e)
      | some w =>
        have wb := ch_bsB m w e
        have w8 : vp_in (nI w) 8 := vp_in_nI (by omega) (by omega)
        exact br_f (nI_pos (n := w) (by omega)) ⟨w8, nm_r (by show bb (nI w).toNatClampNeg = bb w; rw [nI_clamp (by omega)]) (h1 w e)⟩
    | succ n ih =>
      intro m hm
      have i8 : vp_in (nI m) 8 := vp_in_nI (by omega) (by omega)
      have c8 : (nI m).toNatClampNeg = m := nI_clamp (by omega)
      have z := ih (m + 1) (by omega)
      refine br_f (nI_ge (by omega) (by omega)) ⟨i8, ?_⟩
      by_cases q : hb m = 0
      · rw [ch_bs0 q] at z
        exact br_t (by rw [c8]; exact q) (nm_r (nI_1 m) z)
      · refine br_f (by rw [c8]; exact q) ?_
        cases e : ch_bs hb ba m with
        | none =>
          rw [ch_bs1 q e] at z
          exact br_t ch_m1 (nm_r (nI_1 m) z)
        | some w =>
          have wb := ch_bsB m w e
          have w8 : vp_in (nI w) 8 := vp_in_nI (by omega) (by omega)
          have cw : (nI w).toNatClampNeg = w := nI_clamp (by omega)
          refine br_f (nI_pos (n := w) (by omega)) ⟨i8, w8, ?_⟩
          have cc : (bb (nI m).toNatClampNeg ≤ bb (nI w).toNatClampNeg) ↔ ba m ≤ ba w := by
            rw [c8, cw, (hi.2 m q).1, (hi.2 w wb.2).1]; exact Int32.toInt64_le
          by_cases c : ba m ≤ ba w
          · rw [ch_bs2 q e c] at z
            exact br_t (cc.mpr c) (nm_r (nI_1 m) z)
          · rw [ch_bs3 q e c] at z
            exact br_f (fun y => c (cc.mp y)) (nm_r (nI_1 m) z)
  exact ⟨M + 1, L M 0 (by omega)⟩
theorem ch_c2B {k d : Nat} (h : ch_Ca k ca) : ch_Ca k (ch_c2 ca d) := by
  unfold ch_c2
  split
  · exact h
  · refine ch_uLAll (P := ch_aL (10000000000000 * (k : Int))) h ?_
    have z0 : (0 : Int64).toInt = 0 := by decide
    unfold ch_aL; rw [z0]; omega
theorem ch_seC {k d w : Nat} {x : Int32} (hk : k + 5 ≤ 2564) (h : ch_Ca k ca) (hx : ch_ab 1000000 x) : ch_Ca (k + 5) (vp_updL (vp_updL ca w (ca w - x.toInt64)) d (vp_updL ca w (ca w - x.toInt64) d + x.toInt64)) := by
  have X : ch_aL 1000000 x.toInt64 := ch_aLi hx
  have a : ∀ j, ch_aL (10000000000000 * (k : Int) + 1000000) (vp_updL ca w (ca w - x.toInt64) j) :=
    ch_uLAll (P := ch_aL (10000000000000 * (k : Int) + 1000000)) (fun j => ch_aLM (h j) (by omega)) (ch_aLsub (h w) X (by omega))
  exact ch_uLAll (P := ch_aL (10000000000000 * ((k + 5 : Nat) : Int))) (fun j => ch_aLM (a j) (by omega)) (ch_aLM (ch_aLadd (a d) X (by omega)) (by omega))
theorem ch_inv2 {k d : Nat} {ca1 : Nat → Int64} {ps1 : Nat → Int32} {l : Int64} (hc : ch_Cn M N R) (hk : k + 5 ≤ 2564) (hd : d < M) (h1 : st d = 1) (hn : ∀ j, j < M → j ≠ d → ¬ st j = 1) (hf : ch_Fd k fu) (hl : 0 ≤ l.toInt) (ha : ch_Ca (k + 5) ca1) (ho : ∀ s, ch_ab (2 * ch_pb st M) (ps1 s)) (hr : ch_Pr cu se) (b : Nat → Int64) :
    ch_Inv (k + 5) M N R (-1) (upd st d 2) (ch_c2 ca1 d) (ch_F3 st H fu M d l) (fun _ => 0) ba b ps1 cu se := by
  refine ⟨hc, Or.inl ⟨rfl, fun j hj => ?_⟩, ⟨fun j _ => rfl, fun j hj => absurd rfl hj⟩, ?_, ch_c2B ha, fun s => ?_, hr⟩
  · by_cases q : j = d
    · rw [q, ch_us]; decide
    · rw [ch_un q]; exact hn j hj q
  · exact ch_FdU (ch_f3B hc.1.2 (by omega) (ch_f2B hl hf) (ch_r2B hl (hf d).1)) (by omega)
  · have e : ch_pb (upd st d 2) M = 2 * ch_pb st M := by
      unfold ch_pb
      rw [ch_cdS (by rw [h1]; decide) M hd, Nat.pow_succ]
      omega
    rw [e]; exact ho s
theorem ch_lsB {c : Int64} (h : -9000000000000000000 ≤ c.toInt) : 0 ≤ (ch_ls c).toInt := by
  have z0 : (0 : Int64).toInt = 0 := by decide
  unfold ch_ls
  split
  · omega
  · next q =>
    rw [Int64.le_iff_toInt_le, z0] at q
    rw [ch_negL (by omega)]
    omega
theorem ch_close {k : Nat} {u : SX} {v : SY} (I : i_Rel k u v) (hk : k + 5 ≤ 2564) :
    (∃ (r : Int32) (u' : SX) (v' : SY), i_Rel (k + 5) u' v' ∧ (∀ post : Int32 → SX → Prop, post r u' → wpX_closeAuction post u) ∧ (∀ post : Int32 → SY → Prop, post r v' → wpY_closeAuction post v)) ∨
    (∃ (u' : (Nat → Int64) → SX) (v' : (Nat → Int64) → (Nat → Int64) → SY), (∀ a b c, i_Rel (k + 5) (u' a) (v' b c)) ∧ (∀ post : Int32 → SX → Prop, (∀ a, post 1 (u' a)) → wpX_closeAuction post u) ∧ (∀ post : Int32 → SY → Prop, (∀ b c, post 1 (v' b c)) → wpY_closeAuction post v)) := by
  have J := i_up I
  obtain ⟨M, N, R, H, fd, st, ca, fu, mc, hb, ba, bb, ps, cu, se, wf, pa, pb, rfl, rfl, hc, hp, hi, hf, ha, ho, hr⟩ := I
  have hM := hc.1.2
  have hN := hc.2.1.2
  rcases id hp with ⟨e, hn⟩ | ⟨d, hd, e, h1, hn⟩
  · exact Or.inl ⟨0, _, _, J, fun post hp => br_t e (br_t rfl hp), fun post hp => ch_yDn hM hn (br_f ch_m1' hp)⟩
  right
  subst e
  have z : ¬ nI d = -1 := ch_ne1 (by omega)
  have z' : (0 : Int32) ≤ nI d := nI_pos' (by omega)
  have pbB := ch_pbB (st := st) hM
  have hh : ∀ j, 8 ≤ j → hb j = 0 := fun j hj => hi.1 j (by omega)
  have fB := (ch_fsL (st := st) hM (by omega) hf).2
  cases eb : ch_bs hb ba M with
  | none =>
    have c0 : -9000000000000000000 ≤ (ca d).toInt := by have := (ha d).1; omega
    have C := ch_colAll (by omega) (ch_aaCol (G := ch_G st (ch_fn fu) (ch_fs st (ch_fn fu) M) M) (M := M) (d := d) (B := ch_pb st M) (by omega) (by omega) (fun q h m hm => ch_GB (fun j hj hs => ch_fsGe hj hs) pbB.2 q h m hm) ho N hN)
    have e2 : (-2 : Int32).toInt64 = -2 := by decide
    have e0 : (0 : Int32).toInt64 = 0 := by decide
    refine ⟨fun a => ((nI M), (nI N), (nI R), ch_H3 st H fu M d (ch_ls (ca d)), (-1), upd st d 2, ch_c2 ca d, ch_F3 st H fu M d (ch_ls (ca d)), mc, (fun _ => 0), ba, ch_aa (ch_G st (ch_fn fu) (ch_fs st (ch_fn fu) M) M) M d ps N, cu, se, vp_updL (vp_updL (ch_W5 st H fu M d (ch_ls (ca d)) wf) 5 (-2)) 6 0, a),
      fun b c => ((nI M), (nI N), (nI R), ch_H3 st H fu M d (ch_ls (ca d)), upd st d 2, ch_c2 ca d, ch_F3 st H fu M d (ch_ls (ca d)), mc, ch_aa (ch_G st (ch_fn fu) (ch_fs st (ch_fn fu) M) M) M d ps N, (fun _ => 0), b, cu, se, vp_updL (vp_updL (ch_W5 st H fu M d (ch_ls (ca d)) wf) 5 (-2)) 6 0, c),
      fun a b c => ch_mk (ch_inv2 hc hk hd h1 hn hf (ch_lsB c0) (ch_CaU ha (by omega)) C hr b), fun post hp => ?_, fun post hp => ?_⟩
    · refine br_f z (br_f ch_n10 (ch_xHB hM ?_))
      rw [eb]
      refine br_t rfl (ch_xAl (f := ch_fn fu) (B := ch_pb st M) hM hN (by omega) (ch_fnE hf) fB ⟨by omega, by omega⟩ ho (fun pa' => ?_))
      refine ch_x49 (k := k) hM (by omega) (by omega) hf c0 hi.1 (fun a => ?_)
      show post 1 ((nI M), (nI N), (nI R), ch_H3 st H fu M d (ch_ls (ca d)), (-1), upd st d 2, ch_c2 ca d, ch_F3 st H fu M d (ch_ls (ca d)), mc, (fun _ => 0), ba, ch_aa (ch_G st (ch_fn fu) (ch_fs st (ch_fn fu) M) M) M d ps N, cu, se, vp_updL (vp_updL (ch_W5 st H fu M d (ch_ls (ca d)) wf) 5 (-2 : Int32).toInt64) 6 (0 : Int32).toInt64, a)
      rw [e2, e0]
      exact hp a
    · refine ch_yDs hM hd h1 hn (br_t z' (ch_yHB hM hi (fun _ => ?_) (fun w ew => ?_)))
      · refine ch_yAl (f := ch_fn fu) (B := ch_pb st M) hM hN (by omega) (ch_fnE hf) fB ⟨by omega, by omega⟩ ho (fun pb' => ?_)
        exact ch_y358 (k := k) (W := -2) hM (by omega) (by omega) hf c0 hh ⟨fun _ => rfl, fun y => absurd ch_m1 y⟩ (fun b c => hp b c)
      · rw [eb] at ew; cases ew
  | some w =>
    have wb := ch_bsB M w eb
    have hw := hi.2 w wb.2
    have ca1 := ch_seC (d := d) (w := w) (x := ba w) hk ha hw.2
    have c0 : -9000000000000000000 ≤ (vp_updL (vp_updL ca w (ca w - (ba w).toInt64)) d (vp_updL ca w (ca w - (ba w).toInt64) d + (ba w).toInt64) d).toInt := by have := (ca1 d).1; omega
    have C := ch_colAll (by omega) (ch_seCol (w := w) (d := d) (B := ch_pb st M) (by omega) (by omega) ho N hN)
    have w8 : vp_in (nI w) 8 := vp_in_nI (by omega) (by omega)
    have cw : (nI w).toNatClampNeg = w := nI_clamp (by omega)
    refine ⟨fun a => ((nI M), (nI N), (nI R), ch_H3 st H fu M d (ch_ls (vp_updL (vp_updL ca w (ca w - (ba w).toInt64)) d (vp_updL ca w (ca w - (ba w).toInt64) d + (ba w).toInt64) d)), (-1), upd st d 2, ch_c2 (vp_updL (vp_updL ca w (ca w - (ba w).toInt64)) d (vp_updL ca w (ca w - (ba w).toInt64) d + (ba w).toInt64)) d, ch_F3 st H fu M d (ch_ls (vp_updL (vp_updL ca w (ca w - (ba w).toInt64)) d (vp_updL ca w (ca w - (ba w).toInt64) d + (ba w).toInt64) d)), mc, (fun _ => 0), ba, ch_se w d ps N, cu, se, vp_updL (vp_updL (ch_W5 st H fu M d (ch_ls (vp_updL (vp_updL ca w (ca w - (ba w).toInt64)) d (vp_updL ca w (ca w - (ba w).toInt64) d + (ba w).toInt64) d)) wf) 5 (nI w).toInt64) 6 (ba w).toInt64, a),
      fun b c => ((nI M), (nI N), (nI R), ch_H3 st H fu M d (ch_ls (vp_updL (vp_updL ca w (ca w - (ba w).toInt64)) d (vp_updL ca w (ca w - (ba w).toInt64) d + (ba w).toInt64) d)), upd st d 2, ch_c2 (vp_updL (vp_updL ca w (ca w - (ba w).toInt64)) d (vp_updL ca w (ca w - (ba w).toInt64) d + (ba w).toInt64)) d, ch_F3 st H fu M d (ch_ls (vp_updL (vp_updL ca w (ca w - (ba w).toInt64)) d (vp_updL ca w (ca w - (ba w).toInt64) d + (ba w).toInt64) d)), mc, ch_se w d ps N, (fun _ => 0), b, cu, se, vp_updL (vp_updL (ch_W5 st H fu M d (ch_ls (vp_updL (vp_updL ca w (ca w - (ba w).toInt64)) d (vp_updL ca w (ca w - (ba w).toInt64) d + (ba w).toInt64) d)) wf) 5 (nI w).toInt64) 6 (ba w).toInt64, c),
      fun a b c => ch_mk (ch_inv2 hc hk hd h1 hn hf (ch_lsB c0) ca1 C hr b), fun post hp => ?_, fun post hp => ?_⟩
    · refine br_f z (br_f ch_n10 (ch_xHB hM ?_))
      rw [eb]
      refine br_f (ch_ne2 (a := w) (by omega)) ⟨w8, nm_r (e' := ba w) (by show ba (nI w).toNatClampNeg = ba w; rw [cw]) ?_⟩
      refine ch_xSe (d := d) (w := w) hN (by omega) (by omega) ?_
      exact ch_x49 (k := k) hM (by omega) (by omega) hf c0 hi.1 (fun a => hp a)
    · refine ch_yDs hM hd h1 hn (br_t z' (ch_yHB hM hi (fun y => ?_) (fun t et => ?_)))
      · rw [eb] at y; cases y
      · rw [eb] at et
        cases et
        rw [hw.1]
        refine ch_ySe hN (by omega) (by omega) ?_
        exact ch_y358 (k := k) (W := (nI w).toInt64) hM (by omega) (by omega) hf c0 hh ⟨fun y => absurd y (nI_pos (by omega)), fun _ => rfl⟩ (fun b c => hp b c)
theorem i_vc_closeAuction {k : Nat} {u : SX} {v : SY} (I : i_Rel k u v) (hk : k + 5 ≤ 2564) : wpX_closeAuction (fun r u' => wpY_closeAuction (fun r' v' => r' = r ∧ i_Rel (k + 5) u' v') v) u := by
  rcases ch_close I hk with ⟨r, u', v', F, hX, hY⟩ | ⟨u', v', F, hX, hY⟩
  · exact hX _ (hY _ ⟨rfl, F⟩)
  · exact hX _ (fun a => hY _ (fun b c => ⟨rfl, F a b c⟩))
/-! the start -/
theorem ch_clamp (v : Int32) (lo hi : Nat) (h : lo ≤ hi) (hi' : hi < 2 ^ 31) : ∃ n : Nat, lo ≤ n ∧ n ≤ hi ∧ ∀ (P : Int32 → Prop) (Q : Prop), P (nI n) → (P (nI lo) → Q) → ((nI lo ≤ v → ((v ≤ nI hi → P v) ∧ (¬ v ≤ nI hi → P (nI hi)))) ∧ (¬ nI lo ≤ v → Q)) := by
  by_cases a : nI lo ≤ v
  · by_cases b : v ≤ nI hi
    · have v0 : ¬ v < 0 := by
        have x := Int32.le_iff_toInt_le.mp a
        rw [nI_toInt (by omega)] at x
        rw [Int32.lt_iff_toInt_lt, show (0 : Int32).toInt = 0 from by decide]
        omega
      obtain ⟨n, hn, rfl⟩ := nI_of v0
      rw [nI_leI (by omega) hn] at a
      rw [nI_leI hn hi'] at b
      exact ⟨n, a, b, fun P Q p _ => br_t (nI_le a hn) (br_t (nI_le b hi') p)⟩
    · exact ⟨hi, h, Nat.le_refl _, fun P Q p _ => br_t a (br_f b p)⟩
  · exact ⟨lo, Nat.le_refl _, h, fun P Q p q => br_f a (q p)⟩
def ch_ini : Nat → Nat → Int32
  | 0 => fun _ => 0
  | i + 1 => upd (ch_ini i) i 100
theorem ch_iniE : ∀ n j, j < n → ch_ini n j = 100 := by
  intro n
  induction n with
  | zero => intro j hj; omega
  | succ n ih =>
    intro j hj
    show upd (ch_ini n) n 100 j = 100
    by_cases q : j = n
    · rw [q, ch_us]
    · rw [ch_un q]; exact ih j (by omega)
theorem ch_xIni {post : SX → Prop} (hp : post ((nI M), (nI N), (nI R), H, fd, (fun _ => 0), ca, fu, mc, hb, ba, ps, ch_ini 4, ch_ini 4, vp_updL wf 5 (-1), pa)) : ∃ n, wX_init_143 post (nI M) (nI N) (nI R) H fd n 0 (fun _ => 0) ca fu mc hb ba ps (fun _ => 0) (fun _ => 0) wf pa := by
  have L : ∀ n i, i + n = 4 → wX_init_143 post (nI M) (nI N) (nI R) H fd (n + 1) (nI i) (fun _ => 0) ca fu mc hb ba ps (ch_ini i) (ch_ini i) wf pa := by
    intro n
    induction n with
    | zero =>
      intro i hi
      obtain rfl : i = 4 := by omega
      exact br_t (Int32.le_refl _) (nm_e hp)
    | succ n ih =>
      intro i hi
      have i4 : vp_in (nI i) 4 := vp_in_nI (by omega) (by omega)
      exact br_f (nI_ge (b := 4) (by omega) (by omega)) ⟨i4, nm_r (by rw [nI_clamp (by omega)]; rfl) ⟨i4, nm_r (by rw [nI_clamp (by omega)]; rfl) (nm_r (nI_1 i) (ih (i + 1) (by omega)))⟩⟩
  exact ⟨5, L 4 0 (by omega)⟩
theorem ch_yIni {post : SY → Prop} (hp : post ((nI M), (nI N), (nI R), H, (fun _ => 0), ca, fu, mc, ps, hb, bb, ch_ini 4, ch_ini 4, vp_updL wf 5 (-1), pb)) : ∃ n, wY_init_194 post (nI M) (nI N) (nI R) H n 0 (fun _ => 0) ca fu mc ps hb bb (fun _ => 0) (fun _ => 0) wf pb := by
  have L : ∀ n i, i + n = 4 → wY_init_194 post (nI M) (nI N) (nI R) H (n + 1) (nI i) (fun _ => 0) ca fu mc ps hb bb (ch_ini i) (ch_ini i) wf pb := by
    intro n
    induction n with
    | zero =>
      intro i hi
      obtain rfl : i = 4 := by omega
      exact br_t (Int32.le_refl _) (nm_e hp)
    | succ n ih =>
      intro i hi
      have i4 : vp_in (nI i) 4 := vp_in_nI (by omega) (by omega)
      exact br_f (nI_ge (b := 4) (by omega) (by omega)) ⟨i4, nm_r (by rw [nI_clamp (by omega)]; rfl) ⟨i4, nm_r (by rw [nI_clamp (by omega)]; rfl) (nm_r (nI_1 i) (ih (i + 1) (by omega)))⟩⟩
  exact ⟨5, L 4 0 (by omega)⟩
theorem i_vc0 (k0 : Int32) (k1 : Int32) (k2 : Int32) (k3 : Int32) : wpX_init (fun u => wpY_init (fun v => i_Rel 4 u v) k0 k1 k2 k3) k0 k1 k2 k3 := by
  obtain ⟨M, m1, m2, hM⟩ := ch_clamp k0 2 8 (by omega) (by omega)
  obtain ⟨N, n1, n2, hN⟩ := ch_clamp k1 1 4 (by omega) (by omega)
  obtain ⟨C, c1, c2, hC⟩ := ch_clamp k2 0 1000000 (by omega) (by omega)
  obtain ⟨R, r1, r2, hR⟩ := ch_clamp k3 1 50 (by omega) (by omega)
  have xM : ∀ post : Int32 → Prop, post (nI M) → wpX_clamp post k0 2 8 := fun post p => hM post (post (nI 2)) p id
  have xN : ∀ post : Int32 → Prop, post (nI N) → wpX_clamp post k1 1 4 := fun post p => hN post (post (nI 1)) p id
  have xC : ∀ post : Int32 → Prop, post (nI C) → wpX_clamp post k2 0 1000000 := fun post p => hC post (post (nI 0)) p id
  have xR : ∀ post : Int32 → Prop, post (nI R) → wpX_clamp post k3 1 50 := fun post p => hR post (post (nI 1)) p id
  have yR : ∀ post : SY → Prop, (∃ n194 : Nat, wY_init_194 post (nI M) (nI N) (nI R) (nI C).toInt64 n194 0 (fun _ => 0) (fun _ => 0) (fun _ => 0) (fun _ => 0) (fun _ => 0) (fun _ => 0) (fun _ => 0) (fun _ => 0) (fun _ => 0) (fun _ => 0) (fun _ => 0)) → wY_init_160 post k3 (nI C).toInt64 (nI M) (nI N) 0 0 (fun _ => 0) (fun _ => 0) (fun _ => 0) (fun _ => 0) (fun _ => 0) (fun _ => 0) (fun _ => 0) (fun _ => 0) (fun _ => 0) (fun _ => 0) (fun _ => 0) :=
    fun post p => hR (fun z => ∃ n194 : Nat, wY_init_194 post (nI M) (nI N) z (nI C).toInt64 n194 0 (fun _ => 0) (fun _ => 0) (fun _ => 0) (fun _ => 0) (fun _ => 0) (fun _ => 0) (fun _ => 0) (fun _ => 0) (fun _ => 0) (fun _ => 0) (fun _ => 0)) _ p id
  have yC : ∀ post : SY → Prop, wY_init_160 post k3 (nI C).toInt64 (nI M) (nI N) 0 0 (fun _ => 0) (fun _ => 0) (fun _ => 0) (fun _ => 0) (fun _ => 0) (fun _ => 0) (fun _ => 0) (fun _ => 0) (fun _ => 0) (fun _ => 0) (fun _ => 0) → wY_init_135 post k2 k3 (nI N) (nI M) 0 0 0 (fun _ => 0) (fun _ => 0) (fun _ => 0) (fun _ => 0) (fun _ => 0) (fun _ => 0) (fun _ => 0) (fun _ => 0) (fun _ => 0) (fun _ => 0) (fun _ => 0) := by
    intro post p
    refine hC (fun z => wY_init_159 post k3 z (nI M) (nI N) 0 0 (fun _ => 0) (fun _ => 0) (fun _ => 0) (fun _ => 0) (fun _ => 0) (fun _ => 0) (fun _ => 0) (fun _ => 0) (fun _ => 0) (fun _ => 0) (fun _ => 0)) _ p (fun h => ?_)
    have e : (nI 0).toInt64 = 0 := by decide
    unfold wY_init_159 at h
    rw [e] at h
    exact h
  have yN : ∀ post : SY → Prop, wY_init_135 post k2 k3 (nI N) (nI M) 0 0 0 (fun _ => 0) (fun _ => 0) (fun _ => 0) (fun _ => 0) (fun _ => 0) (fun _ => 0) (fun _ => 0) (fun _ => 0) (fun _ => 0) (fun _ => 0) (fun _ => 0) → wY_init_112 post k1 k2 k3 (nI M) 0 0 0 0 (fun _ => 0) (fun _ => 0) (fun _ => 0) (fun _ => 0) (fun _ => 0) (fun _ => 0) (fun _ => 0) (fun _ => 0) (fun _ => 0) (fun _ => 0) (fun _ => 0) :=
    fun post p => hN (fun z => wY_init_135 post k2 k3 z (nI M) 0 0 0 (fun _ => 0) (fun _ => 0) (fun _ => 0) (fun _ => 0) (fun _ => 0) (fun _ => 0) (fun _ => 0) (fun _ => 0) (fun _ => 0) (fun _ => 0) (fun _ => 0)) _ p id
  have yM : ∀ post : SY → Prop, wY_init_112 post k1 k2 k3 (nI M) 0 0 0 0 (fun _ => 0) (fun _ => 0) (fun _ => 0) (fun _ => 0) (fun _ => 0) (fun _ => 0) (fun _ => 0) (fun _ => 0) (fun _ => 0) (fun _ => 0) (fun _ => 0) → wpY_init post k0 k1 k2 k3 :=
    fun post p => hM (fun z => wY_init_112 post k1 k2 k3 z 0 0 0 0 (fun _ => 0) (fun _ => 0) (fun _ => 0) (fun _ => 0) (fun _ => 0) (fun _ => 0) (fun _ => 0) (fun _ => 0) (fun _ => 0) (fun _ => 0) (fun _ => 0)) _ p id
  unfold wpX_init
  refine xM _ (xN _ (xR _ (xC _ (ch_xIni ?_))))
  refine yM _ (yN _ (yC _ (yR _ (ch_yIni ?_))))
  · have p100 : ch_pr (100 : Int32) := by
      have : (100 : Int32).toInt = 100 := by decide
      unfold ch_pr; rw [this]; omega
    have z0 : (0 : Int64).toInt = 0 := by decide
    refine ch_mk ⟨⟨⟨m1, m2⟩, ⟨n1, n2⟩, ⟨r1, r2⟩⟩, Or.inl ⟨rfl, fun j _ => (by decide : ¬ (0 : Int32) = 1)⟩, ⟨fun j _ => rfl, fun j hj => absurd rfl hj⟩, fun j => ?_, fun j => ?_, fun s => ?_, fun i hi => ?_⟩
    · show 0 ≤ (0 : Int64).toInt ∧ (0 : Int64).toInt ≤ _
      rw [z0]; omega
    · show ch_aL _ (0 : Int64)
      unfold ch_aL; rw [z0]; omega
    · have b := ch_pbB (st := fun _ => (0 : Int32)) (M := M) m2
      exact ch_ab0 (by omega)
    · rw [ch_iniE 4 i hi]
      exact ⟨p100, p100⟩
end CHL
