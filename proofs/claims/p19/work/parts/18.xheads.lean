section CHL
/-! M: the bidder, the auction's end, the start -/
variable {M N R : Nat} {H : Int64} {fd : Int32} {st : Nat → Int32} {ca fu mc : Nat → Int64} {hb ba : Nat → Int32} {bb : Nat → Int64} {ps cu se : Nat → Int32} {wf pa pb : Nat → Int64}
def ch_bs (hb ba : Nat → Int32) : Nat → Option Nat
  | 0 => none
  | m + 1 => if hb m = 0 then ch_bs hb ba m else (match ch_bs hb ba m with | none => some m | some w => if ba m ≤ ba w then some w else some m)
theorem ch_bsB : ∀ m w, ch_bs hb ba m = some w → w < m ∧ ¬ hb w = 0 := by
  intro m
  induction m with
  | zero => intro w h; cases h
  | succ m ih =>
    intro w h
    unfold ch_bs at h
    by_cases q : hb m = 0
    · rw [if_pos q] at h
      have := ih w h
      exact ⟨by omega, this.2⟩
    · rw [if_neg q] at h
      cases e : ch_bs hb ba m with
      | none =>
        rw [e] at h
        cases h
        exact ⟨by omega, q⟩
      | some t =>
        rw [e] at h
        by_cases c : ba m ≤ ba t
        · have h' : some t = some w := by rw [← h]; exact (if_pos c).symm
          cases h'
          have := ih _ e
          exact ⟨by omega, this.2⟩
        · have h' : some m = some w := by rw [← h]; exact (if_neg c).symm
          cases h'
          exact ⟨by omega, q⟩
def ch_ox (x : Int32) : Option Nat → Int32
  | none => x
  | some w => nI w
theorem ch_ne2 {a : Nat} (h : a < 2 ^ 31) : ¬ nI a = -2 := by
  intro e
  have := nI_pos (n := a) h
  rw [e] at this
  exact this (by decide)
theorem ch_bs0 {m : Nat} (h : hb m = 0) : ch_bs hb ba (m + 1) = ch_bs hb ba m := if_pos h
theorem ch_bs1 {m : Nat} (h : ¬ hb m = 0) (e : ch_bs hb ba m = none) : ch_bs hb ba (m + 1) = some m := by
  show (if hb m = 0 then ch_bs hb ba m else (match ch_bs hb ba m with | none => some m | some w => if ba m ≤ ba w then some w else some m)) = _
  rw [if_neg h, e]
theorem ch_bs2 {m w : Nat} (h : ¬ hb m = 0) (e : ch_bs hb ba m = some w) (c : ba m ≤ ba w) : ch_bs hb ba (m + 1) = some w := by
  show (if hb m = 0 then ch_bs hb ba m else (match ch_bs hb ba m with | none => some m | some w => if ba m ≤ ba w then some w else some m)) = _
  rw [if_neg h, e]
  exact if_pos c
theorem ch_bs3 {m w : Nat} (h : ¬ hb m = 0) (e : ch_bs hb ba m = some w) (c : ¬ ba m ≤ ba w) : ch_bs hb ba (m + 1) = some m := by
  show (if hb m = 0 then ch_bs hb ba m else (match ch_bs hb ba m with | none => some m | some w => if ba m ≤ ba w then some w else some m)) = _
  rw [if_neg h, e]
  exact if_neg c
theorem ch_xHB {post : Int32 → Prop} (hM : M ≤ 8) (hp : post (ch_ox (-2) (ch_bs hb ba M))) : wpX_highestBidder post ((nI M), (nI N), (nI R), H, fd, st, ca, fu, mc, hb, ba, ps, cu, se, wf, pa) := by
  have L : ∀ n m, m + n = M → wX_highestBidder_5 post (nI M) (nI N) (nI R) H fd st ca fu mc hb ba ps cu se wf pa (n + 1) (ch_ox (-2) (ch_bs hb ba m)) (nI m) := by
    intro n
    induction n with
    | zero =>
      intro m hm
      obtain rfl : m = M := by omega
      exact br_t (Int32.le_refl _) hp
    | succ n ih =>
      intro m hm
      have i8 : vp_in (nI m) 8 := vp_in_nI (by omega) (by omega)
      have c8 : (nI m).toNatClampNeg = m := nI_clamp (by omega)
      have z := ih (m + 1) (by omega)
      refine br_f (nI_ge (by omega) (by omega)) ⟨i8, ?_⟩
      by_cases q : hb m = 0
      · rw [ch_bs0 q] at z
        exact br_t (by rw [c8]; exact q) (nm_r (nI_1 m) z)
      · refine br_f (by rw [c8]; exact q) ?_
        cases e : ch_bs hb ba m with
        | none =>
          rw [ch_bs1 q e] at z
          exact br_t rfl (nm_r (nI_1 m) z)
        | some w =>
          have wb := ch_bsB m w e
          have w8 : vp_in (nI w) 8 := vp_in_nI (by omega) (by omega)
          have cw : (nI w).toNatClampNeg = w := nI_clamp (by omega)
          refine br_f (ch_ne2 (a := w) (by omega)) ⟨i8, w8, ?_⟩
          have cc : (ba (nI m).toNatClampNeg ≤ ba (nI w).toNatClampNeg) ↔ ba m ≤ ba w := by rw [c8, cw]
          by_cases c : ba m ≤ ba w
          · rw [ch_bs2 q e c] at z
            exact br_t (cc.mpr c) (nm_r (nI_1 m) z)
          · rw [ch_bs3 q e c] at z
            exact br_f (fun y => c (cc.mp y)) (nm_r (nI_1 m) z)
  exact ⟨M + 1, L M 0 (by omega)⟩
theorem ch_c2B {k d : Nat} (h : ch_Ca k ca) : ch_Ca k (ch_c2 ca d) := by
  unfold ch_c2
  split
  · exact h
  · refine ch_uLAll (P := ch_aL (10000000000000 * (k : Int))) h ?_
    have z0 : (0 : Int64).toInt = 0 := by decide
    unfold ch_aL; rw [z0]; omega
theorem ch_seC {k d w : Nat} {x : Int32} (hk : k + 5 ≤ 2564) (h : ch_Ca k ca) (hx : ch_ab 1000000 x) : ch_Ca (k + 5) (vp_updL (vp_updL ca w (ca w - x.toInt64)) d (vp_updL ca w (ca w - x.toInt64) d + x.toInt64)) := by
  have X : ch_aL 1000000 x.toInt64 := ch_aLi hx
  have a : ∀ j, ch_aL (10000000000000 * (k : Int) + 1000000) (vp_updL ca w (ca w - x.toInt64) j) :=
    ch_uLAll (P := ch_aL (10000000000000 * (k : Int) + 1000000)) (fun j => ch_aLM (h j) (by omega)) (ch_aLsub (h w) X (by omega))
  exact ch_uLAll (P := ch_aL (10000000000000 * ((k + 5 : Nat) : Int))) (fun j => ch_aLM (a j) (by omega)) (ch_aLM (ch_aLadd (a d) X (by omega)) (by omega))
theorem ch_lsB {c : Int64} (h : -9000000000000000000 ≤ c.toInt) : 0 ≤ (ch_ls c).toInt := by
  have z0 : (0 : Int64).toInt = 0 := by decide
  unfold ch_ls
  split
  · omega
  · next q =>
    rw [Int64.le_iff_toInt_le, z0] at q
    rw [ch_negL (by omega)]
    omega
/-! the start -/
theorem ch_clamp (v : Int32) (lo hi : Nat) (h : lo ≤ hi) (hi' : hi < 2 ^ 31) : ∃ n : Nat, lo ≤ n ∧ n ≤ hi ∧ ∀ (P : Int32 → Prop) (Q : Prop), P (nI n) → (P (nI lo) → Q) → ((nI lo ≤ v → ((v ≤ nI hi → P v) ∧ (¬ v ≤ nI hi → P (nI hi)))) ∧ (¬ nI lo ≤ v → Q)) := by
  by_cases a : nI lo ≤ v
  · by_cases b : v ≤ nI hi
    · have v0 : ¬ v < 0 := by
        have x := Int32.le_iff_toInt_le.mp a
        rw [nI_toInt (by omega)] at x
        rw [Int32.lt_iff_toInt_lt, show (0 : Int32).toInt = 0 from by decide]
        omega
      obtain ⟨n, hn, rfl⟩ := nI_of v0
      rw [nI_leI (by omega) hn] at a
      rw [nI_leI hn hi'] at b
      exact ⟨n, a, b, fun P Q p _ => br_t (nI_le a hn) (br_t (nI_le b hi') p)⟩
    · exact ⟨hi, h, Nat.le_refl _, fun P Q p _ => br_t a (br_f b p)⟩
  · exact ⟨lo, Nat.le_refl _, h, fun P Q p q => br_f a (q p)⟩
def ch_ini : Nat → Nat → Int32
  | 0 => fun _ => 0
  | i + 1 => upd (ch_ini i) i 100
theorem ch_iniE : ∀ n j, j < n → ch_ini n j = 100 := by
  intro n
  induction n with
  | zero => intro j hj; omega
  | succ n ih =>
    intro j hj
    show upd (ch_ini n) n 100 j = 100
    by_cases q : j = n
    · rw [q, ch_us]
    · rw [ch_un q]; exact ih j (by omega)
theorem ch_xIni {kw ks kc kd : Nat} {post : St2 → Prop} (hp : post ((nI M), (nI N), (nI R), H, fd, (fun _ => 0), ca, fu, mc, hb, ba, ps, ch_ini 4, ch_ini 4, vp_updL wf 5 (-1), pa)) : ∃ n, wX_init_143 post kw ks kc kd (nI M) (nI N) (nI R) H fd n 0 (fun _ => 0) ca fu mc hb ba ps (fun _ => 0) (fun _ => 0) wf pa := by
  have L : ∀ n i, i + n = 4 → wX_init_143 post kw ks kc kd (nI M) (nI N) (nI R) H fd (n + 1) (nI i) (fun _ => 0) ca fu mc hb ba ps (ch_ini i) (ch_ini i) wf pa := by
    intro n
    induction n with
    | zero =>
      intro i hi
      obtain rfl : i = 4 := by omega
      exact br_t (Int32.le_refl _) (nm_e hp)
    | succ n ih =>
      intro i hi
      have i4 : vp_in (nI i) 4 := vp_in_nI (by omega) (by omega)
      exact br_f (nI_ge (b := 4) (by omega) (by omega)) ⟨i4, nm_r (by rw [nI_clamp (by omega)]; rfl) ⟨i4, nm_r (by rw [nI_clamp (by omega)]; rfl) (nm_r (nI_1 i) (ih (i + 1) (by omega)))⟩⟩
  exact ⟨5, L 4 0 (by omega)⟩
end CHL
