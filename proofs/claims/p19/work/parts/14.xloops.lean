section CHH
/-! I: settle, callMargins, declareDefault -/
variable {M N R : Nat} {H : Int64} {fd : Int32} {st : Nat → Int32} {ca fu mc : Nat → Int64} {hb ba : Nat → Int32} {bb : Nat → Int64} {ps cu se : Nat → Int32} {wf pa pb : Nat → Int64}
def ch_vm (ps cu se : Nat → Int32) (m : Nat) : Nat → Int64
  | 0 => 0
  | i + 1 => ch_vm ps cu se m i + (ps (m * 4 + i)).toInt64 * (cu i - se i).toInt64
def ch_cs (ps cu se : Nat → Int32) (N : Nat) (ca : Nat → Int64) : Nat → Nat → Int64
  | 0 => ca
  | m + 1 => vp_updL (ch_cs ps cu se N ca m) m (ch_cs ps cu se N ca m m + ch_vm ps cu se m N)
def ch_sl (cu se : Nat → Int32) : Nat → Nat → Int32
  | 0 => se
  | i + 1 => upd (ch_sl cu se i) i (cu i)
theorem ch_csE : ∀ n j, ch_cs ps cu se N ca n j = if j < n then ca j + ch_vm ps cu se j N else ca j := by
  intro n
  induction n with
  | zero => intro j; rw [if_neg (Nat.not_lt_zero _)]; rfl
  | succ n ih =>
    intro j
    show vp_updL (ch_cs ps cu se N ca n) n (ch_cs ps cu se N ca n n + ch_vm ps cu se n N) j = _
    by_cases q : j = n
    · rw [q, ch_uLs, ih, if_neg (Nat.lt_irrefl n), if_pos (Nat.lt_succ_self n)]
    · rw [ch_uLn q, ih]
      by_cases z : j < n
      · rw [if_pos z, if_pos (by omega)]
      · rw [if_neg z, if_neg (by omega)]
theorem ch_slE : ∀ n j, ch_sl cu se n j = if j < n then cu j else se j := by
  intro n
  induction n with
  | zero => intro j; rw [if_neg (Nat.not_lt_zero _)]; rfl
  | succ n ih =>
    intro j
    show upd (ch_sl cu se n) n (cu n) j = _
    by_cases q : j = n
    · rw [q, ch_us, if_pos (Nat.lt_succ_self n)]
    · rw [ch_un q, ih]
      by_cases z : j < n
      · rw [if_pos z, if_pos (by omega)]
      · rw [if_neg z, if_neg (by omega)]
theorem ch_vmB {m : Nat} (hM : M ≤ 8) (ho : ch_Po M st ps) (hr : ch_Pr cu se) : ∀ n : Nat, n ≤ 4 → ch_aL (256000000000 * (n : Int)) (ch_vm ps cu se m n) := by
  intro n
  induction n with
  | zero =>
    intro _
    have : (0 : Int64).toInt = 0 := by decide
    show ch_aL _ (0 : Int64)
    unfold ch_aL; rw [this]; omega
  | succ n ih =>
    intro hn
    have b := ch_pbB (st := st) hM
    have d := ch_dif (hr n (by omega)).1 (hr n (by omega)).2
    have c : ch_aL 256000000000 ((ps (m * 4 + n)).toInt64 * (cu n - se n).toInt64) := ch_aLmul (ch_abM (ho (m * 4 + n)) b.2) d.2 (by omega) (by omega)
    exact ch_aLM (ch_aLadd (ih (by omega)) c (by omega)) (by omega)
theorem ch_xVM {post : Int64 → Prop} {m : Nat} (hm : m < 8) (hN : N ≤ 4) (hp : post (ch_vm ps cu se m N)) : wpX_variationMargin post ((nI M), (nI N), (nI R), H, fd, st, ca, fu, mc, hb, ba, ps, cu, se, wf, pa) (nI m) := by
  have L : ∀ n i, i + n = N → wX_variationMargin_5 post (nI m) (nI M) (nI N) (nI R) H fd st ca fu mc hb ba ps cu se wf pa (n + 1) (ch_vm ps cu se m i) (nI i) := by
    intro n
    induction n with
    | zero =>
      intro i hi
      obtain rfl : i = N := by omega
      exact br_t (Int32.le_refl _) hp
    | succ n ih =>
      intro i hi
      have i4 : vp_in (nI i) 4 := vp_in_nI (by omega) (by omega)
      exact br_f (nI_ge (by omega) (by omega)) (ch_xSlot ⟨vp_in_nI (by omega) (by omega), i4, i4, nm_r (by rw [nI_clamp (by omega), nI_clamp (by omega)]; rfl) (nm_r (nI_1 i) (ih (i + 1) (by omega)))⟩)
  exact ⟨N + 1, L N 0 (by omega)⟩
theorem ch_xS2 {post : Int32 → St2 → Prop} (hN : N ≤ 4) (hp : post 1 ((nI M), (nI N), (nI R), H, fd, st, ca, fu, mc, hb, ba, ps, cu, ch_sl cu se N, wf, pa)) : ∀ n i, i + n = N → wX_settle_41 post (nI M) (nI N) (nI R) H fd (n + 1) (nI i) st ca fu mc hb ba ps cu (ch_sl cu se i) wf pa := by
  intro n
  induction n with
  | zero =>
    intro i hi
    obtain rfl : i = N := by omega
    exact br_t (Int32.le_refl _) hp
  | succ n ih =>
    intro i hi
    have i4 : vp_in (nI i) 4 := vp_in_nI (by omega) (by omega)
    exact br_f (nI_ge (by omega) (by omega)) ⟨i4, i4, nm_r (by rw [nI_clamp (by omega)]; rfl) (nm_r (nI_1 i) (ih (i + 1) (by omega)))⟩
theorem ch_xS1 {post : Int32 → St2 → Prop} (hM : M ≤ 8) (hN : N ≤ 4) (hp : ∃ n, wX_settle_41 post (nI M) (nI N) (nI R) H fd n 0 st (ch_cs ps cu se N ca M) fu mc hb ba ps cu se wf pa) : ∀ n m, m + n = M → wX_settle_11 post (nI M) (nI N) (nI R) H fd (n + 1) (nI m) st (ch_cs ps cu se N ca m) fu mc hb ba ps cu se wf pa := by
  intro n
  induction n with
  | zero =>
    intro m hm
    obtain rfl : m = M := by omega
    exact br_t (Int32.le_refl _) hp
  | succ n ih =>
    intro m hm
    have i8 : vp_in (nI m) 8 := vp_in_nI (by omega) (by omega)
    exact br_f (nI_ge (by omega) (by omega)) ⟨i8, ch_xVM (by omega) hN ⟨i8, nm_r (by rw [nI_clamp (by omega)]; rfl) (nm_r (nI_1 m) (ih (m + 1) (by omega)))⟩⟩
/-! callMargins -/
def ch_sf (st : Nat → Int32) (ca : Nat → Int64) (ps se : Nat → Int32) (N R m : Nat) : Int64 := if st m = 0 then (if ch_L (ch_im (ch_p ps se R m) N) - ca m ≤ 0 then 0 else ch_L (ch_im (ch_p ps se R m) N) - ca m) else 0
def ch_ms (s : Nat → Int64) (mc : Nat → Int64) : Nat → Nat → Int64
  | 0 => mc
  | m + 1 => vp_updL (ch_ms s mc m) m (s m)
def ch_ct (s : Nat → Int64) : Nat → Int32
  | 0 => 0
  | m + 1 => if s m ≤ 0 then ch_ct s m else ch_ct s m + 1
theorem ch_xSF {post : Int64 → Prop} {m : Nat} (hm : m < 8) (hN : N ≤ 4) (hR : 1 ≤ R ∧ R ≤ 50) (hr : ch_Pr cu se) (h : post (ch_sf st ca ps se N R m)) : wpX_shortfall post ((nI M), (nI N), (nI R), H, fd, st, ca, fu, mc, hb, ba, ps, cu, se, wf, pa) (nI m) := by
  have i8 : vp_in (nI m) 8 := vp_in_nI (by omega) (by omega)
  have c8 : (nI m).toNatClampNeg = m := nI_clamp (by omega)
  unfold ch_sf at h
  by_cases s0 : st m = 0
  · rw [if_pos s0] at h
    refine ⟨i8, br_t (by rw [c8]; exact s0) (ch_xIM hm hN hR hr ⟨i8, nm_r (by rw [c8]) ?_⟩)⟩
    generalize ch_L (ch_im (ch_p ps se R m) N) - ca m = c at h
    unfold wpX_greater
    by_cases q : c ≤ 0
    · rw [if_pos q] at h
      by_cases z : (0 : Int64) ≤ c
      · have e : c = 0 := Int64.le_antisymm q z
        exact br_t z (by rw [e]; exact h)
      · exact br_f z h
    · rw [if_neg q] at h
      exact br_t (Int64.le_of_lt (Int64.not_le.mp q)) h
  · rw [if_neg s0] at h
    exact ⟨i8, br_f (by rw [c8]; exact s0) h⟩
theorem ch_xCM {post : Int32 → St2 → Prop} (hM : M ≤ 8) (hN : N ≤ 4) (hR : 1 ≤ R ∧ R ≤ 50) (hr : ch_Pr cu se) (hp : post (ch_ct (ch_sf st ca ps se N R) M) ((nI M), (nI N), (nI R), H, fd, st, ca, fu, ch_ms (ch_sf st ca ps se N R) mc M, hb, ba, ps, cu, se, wf, pa)) :
    ∀ n m, m + n = M → wX_callMargins_13 post (nI M) (nI N) (nI R) H fd (n + 1) (ch_ct (ch_sf st ca ps se N R) m) (nI m) st ca fu (ch_ms (ch_sf st ca ps se N R) mc m) hb ba ps cu se wf pa := by
  intro n
  induction n with
  | zero =>
    intro m hm
    obtain rfl : m = M := by omega
    exact br_t (Int32.le_refl _) hp
  | succ n ih =>
    intro m hm
    have i8 : vp_in (nI m) 8 := vp_in_nI (by omega) (by omega)
    have c8 : (nI m).toNatClampNeg = m := nI_clamp (by omega)
    have e : ch_ms (ch_sf st ca ps se N R) mc (m + 1) (nI m).toNatClampNeg = ch_sf st ca ps se N R m := by rw [c8]; exact ch_uLs
    have z := ih (m + 1) (by omega)
    refine br_f (nI_ge (by omega) (by omega)) (ch_xSF (by omega) hN hR hr ⟨i8, nm_r (e' := ch_ms (ch_sf st ca ps se N R) mc (m + 1)) (by rw [c8]; rfl) ⟨i8, ?_⟩⟩)
    by_cases q : ch_sf st ca ps se N R m ≤ 0
    · rw [show ch_ct (ch_sf st ca ps se N R) (m + 1) = ch_ct (ch_sf st ca ps se N R) m from if_pos q] at z
      exact br_t (by rw [e]; exact q) (nm_r (nI_1 m) z)
    · rw [show ch_ct (ch_sf st ca ps se N R) (m + 1) = ch_ct (ch_sf st ca ps se N R) m + 1 from if_neg q] at z
      exact br_f (by rw [e]; exact q) (nm_e (nm_r (nI_1 m) z))
/-! declareDefault -/
theorem ch_xSC {post : Int32 → Prop} (hM : M ≤ 8) (hp : post (nI (ch_ca st M))) : wpX_survivorCount post ((nI M), (nI N), (nI R), H, fd, st, ca, fu, mc, hb, ba, ps, cu, se, wf, pa) := by
  have L : ∀ n m, m + n = M → wX_survivorCount_4 post (nI M) (nI N) (nI R) H fd st ca fu mc hb ba ps cu se wf pa (n + 1) (nI (ch_ca st m)) (nI m) := by
    intro n
    induction n with
    | zero =>
      intro m hm
      obtain rfl : m = M := by omega
      exact br_t (Int32.le_refl _) hp
    | succ n ih =>
      intro m hm
      have i8 : vp_in (nI m) 8 := vp_in_nI (by omega) (by omega)
      have c8 : (nI m).toNatClampNeg = m := nI_clamp (by omega)
      have z := ih (m + 1) (by omega)
      refine br_f (nI_ge (by omega) (by omega)) ⟨i8, ?_⟩
      by_cases s0 : st m = 0
      · rw [show ch_ca st (m + 1) = ch_ca st m + 1 from congrArg (ch_ca st m + ·) (if_pos s0)] at z
        exact br_t (by rw [c8]; exact s0) (nm_r (nI_1 _) (nm_r (nI_1 m) z))
      · rw [show ch_ca st (m + 1) = ch_ca st m from congrArg (ch_ca st m + ·) (if_neg s0)] at z
        exact br_f (by rw [c8]; exact s0) (nm_r (nI_1 m) z)
  exact ⟨M + 1, L M 0 (by omega)⟩
theorem ch_xCB {post : St2 → Prop} (hM : M ≤ 8) (h : ∀ j, M ≤ j → hb j = 0) (hp : post ((nI M), (nI N), (nI R), H, fd, st, ca, fu, mc, (fun _ => 0), ba, ps, cu, se, wf, pa)) : wpX_clearBids post ((nI M), (nI N), (nI R), H, fd, st, ca, fu, mc, hb, ba, ps, cu, se, wf, pa) := by
  have L : ∀ n m (hb : Nat → Int32), m + n = M → (∀ j, M ≤ j → hb j = 0) → (∀ j, j < m → hb j = 0) → wX_clearBids_2 post (nI M) (nI N) (nI R) H fd (n + 1) (nI m) st ca fu mc hb ba ps cu se wf pa := by
    intro n
    induction n with
    | zero =>
      intro m hb hm h1 h2
      obtain rfl : m = M := by omega
      obtain rfl : hb = fun _ => 0 := by
        funext j
        by_cases q : j < m
        · exact h2 j q
        · exact h1 j (by omega)
      exact br_t (Int32.le_refl _) hp
    | succ n ih =>
      intro m hb hm h1 h2
      have i8 : vp_in (nI m) 8 := vp_in_nI (by omega) (by omega)
      refine br_f (nI_ge (by omega) (by omega)) ⟨i8, nm_r (by rw [nI_clamp (by omega)]) (nm_r (nI_1 m) (ih (m + 1) _ (by omega) ?_ ?_))⟩
      · intro j hj; rw [ch_un (by omega)]; exact h1 j hj
      · intro j hj
        by_cases q : j = m
        · rw [q, ch_us]
        · rw [ch_un q]; exact h2 j (by omega)
  exact ⟨M + 1, L M 0 hb (by omega) h (fun j hj => absurd hj (Nat.not_lt_zero _))⟩
end CHH
