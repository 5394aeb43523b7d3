section CHI
/-! J: funds, shares, splits -/
variable {M N R : Nat} {H : Int64} {fd : Int32} {st : Nat → Int32} {ca fu mc : Nat → Int64} {hb ba : Nat → Int32} {bb : Nat → Int64} {ps cu se : Nat → Int32} {wf pa pb : Nat → Int64}
def ch_fn (fu : Nat → Int64) (j : Nat) : Nat := (fu j).toInt.toNat
theorem ch_fnE {k : Nat} (h : ch_Fd k fu) : ∀ j, fu j = lN (ch_fn fu j) := by
  intro j
  have a := h j
  have b := (fu j).toInt_lt
  apply Int64.toInt_inj.mp
  unfold ch_fn
  rw [pk_lT (by omega)]
  omega
theorem ch_fnB {k : Nat} (h : ch_Fd k fu) : ∀ j, ch_fn fu j ≤ 200000 * k := by
  intro j
  have a := h j
  unfold ch_fn
  omega
theorem ch_xFs {post : Int64 → Prop} {f : Nat → Nat} (hM : M ≤ 8) (hf : ∀ j, fu j = lN (f j)) (hp : post (lN (ch_fs st f M))) : wpX_survivorFunds post ((nI M), (nI N), (nI R), H, fd, st, ca, fu, mc, hb, ba, ps, cu, se, wf, pa) := by
  have L : ∀ n m, m + n = M → wX_survivorFunds_4 post (nI M) (nI N) (nI R) H fd st ca fu mc hb ba ps cu se wf pa (n + 1) (lN (ch_fs st f m)) (nI m) := by
    intro n
    induction n with
    | zero =>
      intro m hm
      obtain rfl : m = M := by omega
      exact br_t (Int32.le_refl _) hp
    | succ n ih =>
      intro m hm
      have i8 : vp_in (nI m) 8 := vp_in_nI (by omega) (by omega)
      have c8 : (nI m).toNatClampNeg = m := nI_clamp (by omega)
      have z := ih (m + 1) (by omega)
      refine br_f (nI_ge (by omega) (by omega)) ⟨i8, ?_⟩
      by_cases s0 : st m = 0
      · rw [show ch_fs st f (m + 1) = ch_fs st f m + f m from congrArg (ch_fs st f m + ·) (if_pos s0)] at z
        exact br_t (by rw [c8]; exact s0) ⟨i8, nm_r (by rw [c8, hf, lN_add]) (nm_r (nI_1 m) z)⟩
      · rw [show ch_fs st f (m + 1) = ch_fs st f m from congrArg (ch_fs st f m + ·) (if_neg s0)] at z
        exact br_f (by rw [c8]; exact s0) (nm_r (nI_1 m) z)
  exact ⟨M + 1, L M 0 (by omega)⟩
theorem ch_bit {A n : Nat} (hA : A < 4611686018427387904) (hn : n < 63) : (lN A >>> ((nI n).toInt64 &&& 63)) &&& 1 = lN (A / 2 ^ n % 2) := by
  have h1 : A / 2 ^ n ≤ A := Nat.div_le_self _ _
  have e : ((lN n).toBitVec.smod 64).toNat = n := by
    rw [wb_tb, wb_sm n (by omega), BitVec.toNat_ofNat, Nat.mod_eq_of_lt (by omega)]
  rw [wb_c n (by omega), pf_shr e hA, wb_a1 (by omega)]
theorem ch_xSh {post : Int64 → Prop} {A f F : Nat} (hA : A < 4611686018427387904) (hf : f ≤ F) (hF : 0 < F) (hF' : F < 2305843009213693952) (hp : post (lN (A * f / F))) : wpX_share post () (lN A) (lN f) (lN F) := by
  have L : ∀ n q r, n ≤ 63 → q * F + r = (A / 2 ^ n) * f → r < F → wX_share_10 post (lN A) (lN f) (lN F) (n + 1) (lN q) (lN r) (ch_I ((n : Int) - 1)) := by
    intro n
    induction n with
    | zero =>
      intro q r _ hq hr
      rw [Nat.pow_zero, Nat.div_one] at hq
      rw [← ch_shEnd hq hr] at hp
      exact br_t (by decide) hp
    | succ n ih =>
      intro q r hn hq hr
      have en : ch_I (((n + 1 : Nat) : Int) - 1) = nI n := by
        rw [ch_In, show ((n + 1 : Nat) : Int) - 1 = (n : Int) by omega]
      have em : nI n + (-1) = ch_I ((n : Int) - 1) := by
        rw [ch_In, show (-1 : Int32) = ch_I (-1) from by decide, ch_Iadd]; rfl
      have ea : A / 2 ^ n = 2 * (A / 2 ^ (n + 1)) + A / 2 ^ n % 2 := by
        have : A / 2 ^ (n + 1) = A / 2 ^ n / 2 := by rw [Nat.pow_succ, Nat.div_div_eq_div_mul]
        rw [this]; omega
      have bb := ch_bit (A := A) (n := n) hA (by omega)
      have b2 : A / 2 ^ n % 2 = 0 ∨ A / 2 ^ n % 2 = 1 := by omega
      have S := ch_shStep hf hq hr b2
      rw [← ea] at S
      rw [en]
      have tail : ∀ q1 r1 : Nat, r1 < F → (∀ q2 r2 : Nat, (A / 2 ^ n % 2 = 0 → q2 = q1 ∧ r2 = r1) → (A / 2 ^ n % 2 = 1 → F ≤ r1 + f → q2 = q1 + 1 ∧ r2 = r1 + f - F) → (A / 2 ^ n % 2 = 1 → ¬ F ≤ r1 + f → q2 = q1 ∧ r2 = r1 + f) → q2 * F + r2 = (A / 2 ^ n) * f ∧ r2 < F) →
          wX_share_52 post (wX_share_10 post (lN A) (lN f) (lN F) (n + 1)) (lN A) (lN f) (lN F) (lN q1) (lN r1) (nI n) := by
        intro q1 r1 hr1 T
        unfold wX_share_52
        rw [bb]
        rcases b2 with b | b
        · rw [b]
          have t := T q1 r1 (fun _ => ⟨rfl, rfl⟩) (fun z => by omega) (fun z => by omega)
          exact br_f (by decide) (nm_r em (ih q1 r1 (by omega) t.1 t.2))
        · rw [b]
          refine br_t (by decide) (nm_r (lN_add r1 f) ?_)
          have c : lN (r1 + f) < lN F ↔ r1 + f < F := pk_lLT (by omega) (by omega)
          by_cases z : r1 + f < F
          · have t := T q1 (r1 + f) (fun y => by omega) (fun _ y => by omega) (fun _ _ => ⟨rfl, rfl⟩)
            exact br_t (c.mpr z) (nm_r em (ih q1 (r1 + f) (by omega) t.1 t.2))
          · have t := T (q1 + 1) (r1 + f - F) (fun y => by omega) (fun _ _ => ⟨rfl, rfl⟩) (fun _ y => by omega)
            exact br_f (fun y => z (c.mp y)) (nm_r (lN_sub (by omega)) (nm_r (lN_1 q1) (nm_r em (ih (q1 + 1) (r1 + f - F) (by omega) t.1 t.2))))
      refine br_f (nI_pos (by omega)) (nm_r (e' := lN (2 * q)) ?_ (nm_r (e' := lN (2 * r)) ?_ ?_))
      · rw [show (2 : Int64) = lN 2 from rfl, lN_mul, Nat.mul_comm]
      · rw [show (2 : Int64) = lN 2 from rfl, lN_mul, Nat.mul_comm]
      · have c : lN (2 * r) < lN F ↔ 2 * r < F := pk_lLT (by omega) (by omega)
        by_cases z : 2 * r < F
        · exact br_t (c.mpr z) (tail (2 * q) (2 * r) z (fun q2 r2 => S (2 * q) (2 * r) q2 r2 (fun y => by omega) (fun _ => ⟨rfl, rfl⟩)))
        · exact br_f (fun y => z (c.mp y)) (nm_r (lN_sub (by omega)) (nm_r (lN_1 (2 * q)) (tail (2 * q + 1) (2 * r - F) (by omega) (fun q2 r2 => S (2 * q + 1) (2 * r - F) q2 r2 (fun _ => ⟨rfl, rfl⟩) (fun y => by omega)))))
  refine ⟨64, ?_⟩
  refine L 63 0 0 (by omega) ?_ hF
  rw [Nat.div_eq_of_lt (by omega), Nat.zero_mul, Nat.zero_mul]
theorem ch_lpos {l : Int} (h : -9000000000000000000 ≤ l ∧ l ≤ 9000000000000000000) : ch_L l ≤ 0 ↔ l ≤ 0 := by
  rw [show (0 : Int64) = ch_L 0 from by decide]
  exact ch_Lle (by omega) (by omega) (by omega) (by omega)
theorem ch_lN0 {n : Nat} (h : n < 9223372036854775808) : lN n ≤ 0 ↔ n = 0 := by
  rw [show (0 : Int64) = lN 0 from rfl, pk_lLE h (by omega)]; omega
/-- the second pass of a split: what its loop's head knows -/
def ch_P2 (st : Nat → Int32) (f : Nat → Nat) (A F M m : Nat) (l : Int) (pa : Nat → Int64) : Prop :=
  (∀ j, j < M → pa j = lN (if j < m then ch_g st f A F M j else ch_g0 st f A F j)) ∧ (0 < l → l = (A : Int) - ch_gs st f A F M - ch_el st f m) ∧ (l ≤ 0 → A ≤ ch_gs st f A F M + ch_el st f m) ∧ l ≤ A ∧ -(9 * (A : Int)) - 8 ≤ l
theorem ch_P2N {f : Nat → Nat} {A F m : Nat} {l : Int} (h : ch_P2 st f A F M m l pa) (hn : ¬ ((st m = 0 ∧ 0 < f m) ∧ 0 < l)) : ch_P2 st f A F M (m + 1) l pa := by
  obtain ⟨h1, h2, h3, h4, h5⟩ := h
  have em := ch_elMono st f (show m ≤ m + 1 by omega)
  refine ⟨fun j hj => ?_, fun z => ?_, fun z => ?_, h4, h5⟩
  · rw [h1 j hj]
    by_cases q : j = m
    · subst q
      rw [if_neg (Nat.lt_irrefl j), if_pos (Nat.lt_succ_self j)]
      have : ¬ ((st j = 0 ∧ 0 < f j) ∧ ch_el st f j + ch_gs st f A F M < A) := by
        intro y
        by_cases z : 0 < l
        · exact hn ⟨y.1, z⟩
        · have := h3 (by omega); omega
      unfold ch_g
      rw [if_neg this, Nat.add_zero]
    · by_cases z : j < m
      · rw [if_pos z, if_pos (by omega)]
      · rw [if_neg z, if_neg (by omega)]
  · have : ch_el st f (m + 1) = ch_el st f m := by
      have : ¬ (st m = 0 ∧ 0 < f m) := fun y => hn ⟨y, z⟩
      show ch_el st f m + (if st m = 0 ∧ 0 < f m then 1 else 0) = _
      rw [if_neg this]; rfl
    rw [this]; exact h2 z
  · have := h3 z; omega
theorem ch_P2Y {f : Nat → Nat} {A F m : Nat} {l : Int} (hm : m < M) (h : ch_P2 st f A F M m l pa) (hs : st m = 0) (hf : 0 < f m) (hl : 0 < l) : ch_P2 st f A F M (m + 1) (l - 1) (vp_updL pa m (pa m + 1)) := by
  obtain ⟨h1, h2, h3, h4, h5⟩ := h
  have e : ch_el st f (m + 1) = ch_el st f m + 1 := by
    show ch_el st f m + (if st m = 0 ∧ 0 < f m then 1 else 0) = _
    rw [if_pos ⟨hs, hf⟩]
  have hl2 := h2 hl
  refine ⟨fun j hj => ?_, fun z => ?_, fun z => ?_, by omega, by omega⟩
  · by_cases q : j = m
    · subst q
      rw [ch_uLs, if_pos (Nat.lt_succ_self j), h1 j hj, if_neg (Nat.lt_irrefl j), lN_1]
      unfold ch_g
      rw [if_pos ⟨⟨hs, hf⟩, by omega⟩]
    · rw [ch_uLn q, h1 j hj]
      by_cases z : j < m
      · rw [if_pos z, if_pos (by omega)]
      · rw [if_neg z, if_neg (by omega)]
  · rw [e]; omega
  · rw [e]; omega
theorem ch_P2E {f : Nat → Nat} {A F m : Nat} {l : Int} (h : ch_P2 st f A F M m l pa) (hl : M ≤ m ∨ l ≤ 0) : ∀ j, j < M → pa j = lN (ch_g st f A F M j) := by
  obtain ⟨h1, h2, h3, h4, h5⟩ := h
  intro j hj
  rw [h1 j hj]
  by_cases z : j < m
  · rw [if_pos z]
  · rw [if_neg z]
    have l0 : l ≤ 0 := by rcases hl with q | q <;> omega
    have := h3 l0
    have em := ch_elMono st f (show m ≤ j by omega)
    unfold ch_g
    rw [if_neg (fun y => by have := y.2; omega), Nat.add_zero]
theorem ch_xSp {post : St2 → Prop} {f : Nat → Nat} {A F : Nat} (hM : M ≤ 8) (hf : ∀ j, fu j = lN (f j)) (hA : A < 4294967296) (hF : 0 < F) (hF' : F < 4294967296) (hfF : ∀ j, j < M → st j = 0 → f j ≤ F) (hfB : ∀ j, f j < 536870912)
    (hp : ∀ pa', (∀ j, j < M → pa' j = lN (ch_g st f A F M j)) → post ((nI M), (nI N), (nI R), H, fd, st, ca, fu, mc, hb, ba, ps, cu, se, wf, pa')) : wpX_splitProRata post ((nI M), (nI N), (nI R), H, fd, st, ca, fu, mc, hb, ba, ps, cu, se, wf, pa) (lN A) (lN F) := by
  have g0A : ∀ j, j < M → ch_g0 st f A F j ≤ A := fun j hj => ch_g0A (hfF j hj)
  have gsB : ∀ n, n ≤ M → ch_gs st f A F n ≤ n * A := by
    intro n
    induction n with
    | zero => intro _; show 0 ≤ _; omega
    | succ n ih =>
      intro hn
      have a := ih (by omega)
      have b := g0A n (by omega)
      show ch_gs st f A F n + ch_g0 st f A F n ≤ (n + 1) * A
      rw [Nat.succ_mul]; omega
  have gM : ch_gs st f A F M ≤ 8 * A := Nat.le_trans (gsB M (Nat.le_refl _)) (Nat.mul_le_mul_right A hM)
  have L2 : ∀ n m l (pa : Nat → Int64), m + n = M → ch_P2 st f A F M m l pa → wX_splitProRata_73 post (nI M) (nI N) (nI R) H fd (n + 1) (ch_L l) (nI m) st ca fu mc hb ba ps cu se wf pa := by
    intro n
    induction n with
    | zero =>
      intro m l pa hm h
      exact br_t (nI_le (by omega) (by omega)) (hp pa (ch_P2E h (Or.inl (by omega))))
    | succ n ih =>
      intro m l pa hm h
      have i8 : vp_in (nI m) 8 := vp_in_nI (by omega) (by omega)
      have c8 : (nI m).toNatClampNeg = m := nI_clamp (by omega)
      have h5 := h.2.2.2
      have lp := ch_lpos (l := l) (by omega)
      refine br_f (nI_ge (by omega) (by omega)) ?_
      by_cases q : l ≤ 0
      · exact br_t (lp.mpr q) (hp pa (ch_P2E h (Or.inr q)))
      · refine br_f (fun z => q (lp.mp z)) ⟨i8, ?_⟩
        by_cases s0 : st m = 0
        · refine br_t (by rw [c8]; exact s0) ⟨i8, ?_⟩
          have fz : fu (nI m).toNatClampNeg ≤ 0 ↔ f m = 0 := by rw [c8, hf]; exact ch_lN0 (by have := hfB m; omega)
          by_cases f0 : f m = 0
          · exact br_t (fz.mpr f0) (nm_r (nI_1 m) (ih (m + 1) l pa (by omega) (ch_P2N h (fun y => by omega))))
          · exact br_f (fun z => f0 (fz.mp z)) ⟨i8, i8, nm_r (by rw [c8]) (nm_r (e' := ch_L (l - 1)) (by rw [show (1 : Int64) = ch_L 1 from by decide, ch_Lsub]) (nm_r (nI_1 m) (ih (m + 1) (l - 1) _ (by omega) (ch_P2Y (by omega) h s0 (by omega) (by omega)))))⟩
        · exact br_f (by rw [c8]; exact s0) (nm_r (nI_1 m) (ih (m + 1) l pa (by omega) (ch_P2N h (fun y => s0 y.1.1))))
  have L1 : ∀ n m (pa : Nat → Int64), m + n = M → (∀ j, j < m → pa j = lN (ch_g0 st f A F j)) → wX_splitProRata_6 post (lN A) (lN F) (nI M) (nI N) (nI R) H fd (n + 1) (ch_L ((A : Int) - ch_gs st f A F m)) (nI m) st ca fu mc hb ba ps cu se wf pa := by
    intro n
    induction n with
    | zero =>
      intro m pa hm h
      obtain rfl : m = M := by omega
      refine br_t (Int32.le_refl _) ⟨m + 1, ?_⟩
      refine L2 m 0 _ pa (by omega) ⟨fun j hj => ?_, fun _ => ?_, fun z => ?_, by omega, by omega⟩
      · rw [if_neg (Nat.not_lt_zero j)]; exact h j hj
      · show _ = (A : Int) - ch_gs st f A F m - ((0 : Nat) : Int); omega
      · show A ≤ ch_gs st f A F m + 0; omega
    | succ n ih =>
      intro m pa hm h
      have i8 : vp_in (nI m) 8 := vp_in_nI (by omega) (by omega)
      have c8 : (nI m).toNatClampNeg = m := nI_clamp (by omega)
      refine br_f (nI_ge (by omega) (by omega)) ⟨i8, nm_r (by rw [c8]) ⟨i8, ?_⟩⟩
      by_cases s0 : st m = 0
      · have e0 : ch_g0 st f A F m = A * f m / F := if_pos s0
        refine br_t (by rw [c8]; exact s0) ⟨i8, ?_⟩
        rw [c8, hf m]
        refine ch_xSh (by omega) (hfF m (by omega) s0) hF (by omega) ⟨i8, nm_r ch_uuL ⟨i8, nm_r (e' := ch_L ((A : Int) - ch_gs st f A F (m + 1))) ?_ (nm_r (nI_1 m) (ih (m + 1) _ (by omega) ?_))⟩⟩
        · rw [ch_uLs, ch_Ln, ch_Lsub, ← e0]
          congr 1
          show _ = (A : Int) - ((ch_gs st f A F m + ch_g0 st f A F m : Nat) : Int)
          omega
        · intro j hj
          by_cases q : j = m
          · rw [q, ch_uLs, e0]
          · rw [ch_uLn q]; exact h j (by omega)
      · have e0 : ch_g0 st f A F m = 0 := if_neg s0
        have e1 : ch_gs st f A F (m + 1) = ch_gs st f A F m := by
          show ch_gs st f A F m + ch_g0 st f A F m = _
          rw [e0]; rfl
        have z := ih (m + 1) (vp_updL pa m 0) (by omega) (fun j hj => by
          by_cases q : j = m
          · rw [q, ch_uLs, e0]; rfl
          · rw [ch_uLn q]; exact h j (by omega))
        rw [e1] at z
        exact br_f (by rw [c8]; exact s0) (nm_r (nI_1 m) z)
  refine ⟨M + 1, ?_⟩
  have z := L1 M 0 pa (by omega) (fun j hj => absurd hj (Nat.not_lt_zero _))
  rw [show ch_L ((A : Int) - ch_gs st f A F 0) = lN A from by rw [ch_Ln]; exact congrArg ch_L (Int.sub_zero _)] at z
  exact z
end CHI
