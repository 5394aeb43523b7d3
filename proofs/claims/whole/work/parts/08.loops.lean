section CHH
/-! I: settle, callMargins, declareDefault -/
variable {M N R : Nat} {H : Int64} {fd : Int32} {st : Nat → Int32} {ca fu mc : Nat → Int64} {hb ba : Nat → Int32} {bb : Nat → Int64} {ps cu se : Nat → Int32} {wf pa pb : Nat → Int64}
def ch_vm (ps cu se : Nat → Int32) (m : Nat) : Nat → Int64
  | 0 => 0
  | i + 1 => ch_vm ps cu se m i + (ps (m * 4 + i)).toInt64 * (cu i - se i).toInt64
def ch_cs (ps cu se : Nat → Int32) (N : Nat) (ca : Nat → Int64) : Nat → Nat → Int64
  | 0 => ca
  | m + 1 => vp_updL (ch_cs ps cu se N ca m) m (ch_cs ps cu se N ca m m + ch_vm ps cu se m N)
def ch_sl (cu se : Nat → Int32) : Nat → Nat → Int32
  | 0 => se
  | i + 1 => upd (ch_sl cu se i) i (cu i)
theorem ch_csE : ∀ n j, ch_cs ps cu se N ca n j = if j < n then ca j + ch_vm ps cu se j N else ca j := by
  intro n
  induction n with
  | zero => intro j; rw [if_neg (Nat.not_lt_zero _)]; rfl
  | succ n ih =>
    intro j
    show vp_updL (ch_cs ps cu se N ca n) n (ch_cs ps cu se N ca n n + ch_vm ps cu se n N) j = _
    by_cases q : j = n
    · rw [q, ch_uLs, ih, if_neg (Nat.lt_irrefl n), if_pos (Nat.lt_succ_self n)]
    · rw [ch_uLn q, ih]
      by_cases z : j < n
      · rw [if_pos z, if_pos (by omega)]
      · rw [if_neg z, if_neg (by omega)]
theorem ch_slE : ∀ n j, ch_sl cu se n j = if j < n then cu j else se j := by
  intro n
  induction n with
  | zero => intro j; rw [if_neg (Nat.not_lt_zero _)]; rfl
  | succ n ih =>
    intro j
    show upd (ch_sl cu se n) n (cu n) j = _
    by_cases q : j = n
    · rw [q, ch_us, if_pos (Nat.lt_succ_self n)]
    · rw [ch_un q, ih]
      by_cases z : j < n
      · rw [if_pos z, if_pos (by omega)]
      · rw [if_neg z, if_neg (by omega)]
theorem ch_vmB {m : Nat} (hM : M ≤ 8) (ho : ch_Po M st ps) (hr : ch_Pr cu se) : ∀ n : Nat, n ≤ 4 → ch_aL (256000000000 * (n : Int)) (ch_vm ps cu se m n) := by
  intro n
  induction n with
  | zero =>
    intro _
    have : (0 : Int64).toInt = 0 := by decide
    show ch_aL _ (0 : Int64)
    unfold ch_aL; rw [this]; omega
  | succ n ih =>
    intro hn
    have b := ch_pbB (st := st) hM
    have d := ch_dif (hr n (by omega)).1 (hr n (by omega)).2
    have c : ch_aL 256000000000 ((ps (m * 4 + n)).toInt64 * (cu n - se n).toInt64) := ch_aLmul (ch_abM (ho (m * 4 + n)) b.2) d.2 (by omega) (by omega)
    exact ch_aLM (ch_aLadd (ih (by omega)) c (by omega)) (by omega)
theorem ch_xVM {post : Int64 → Prop} {m : Nat} (hm : m < 8) (hN : N ≤ 4) (hp : post (ch_vm ps cu se m N)) : wpX_variationMargin post ((nI M), (nI N), (nI R), H, fd, st, ca, fu, mc, hb, ba, ps, cu, se, wf, pa) (nI m) := by
  have L : ∀ n i, i + n = N → wX_variationMargin_5 post (nI m) (nI M) (nI N) (nI R) H fd st ca fu mc hb ba ps cu se wf pa (n + 1) (ch_vm ps cu se m i) (nI i) := by
    intro n
    induction n with
    | zero =>
      intro i hi
      obtain rfl : i = N := by omega
      exact br_t (Int32.le_refl _) hp
    | succ n ih =>
      intro i hi
      have i4 : vp_in (nI i) 4 := vp_in_nI (by omega) (by omega)
      exact br_f (nI_ge (by omega) (by omega)) (ch_xSlot ⟨vp_in_nI (by omega) (by omega), i4, i4, nm_r (by rw [nI_clamp (by omega), nI_clamp (by omega)]; rfl) (nm_r (nI_1 i) (ih (i + 1) (by omega)))⟩)
  exact ⟨N + 1, L N 0 (by omega)⟩
theorem ch_xS2 {post : Int32 → SX → Prop} (hN : N ≤ 4) (hp : post 1 ((nI M), (nI N), (nI R), H, fd, st, ca, fu, mc, hb, ba, ps, cu, ch_sl cu se N, wf, pa)) : ∀ n i, i + n = N → wX_settle_41 post (nI M) (nI N) (nI R) H fd (n + 1) (nI i) st ca fu mc hb ba ps cu (ch_sl cu se i) wf pa := by
  intro n
  induction n with
  | zero =>
    intro i hi
    obtain rfl : i = N := by omega
    exact br_t (Int32.le_refl _) hp
  | succ n ih =>
    intro i hi
    have i4 : vp_in (nI i) 4 := vp_in_nI (by omega) (by omega)
    exact br_f (nI_ge (by omega) (by omega)) ⟨i4, i4, nm_r (by rw [nI_clamp (by omega)]; rfl) (nm_r (nI_1 i) (ih (i + 1) (by omega)))⟩
theorem ch_xS1 {post : Int32 → SX → Prop} (hM : M ≤ 8) (hN : N ≤ 4) (hp : ∃ n, wX_settle_41 post (nI M) (nI N) (nI R) H fd n 0 st (ch_cs ps cu se N ca M) fu mc hb ba ps cu se wf pa) : ∀ n m, m + n = M → wX_settle_11 post (nI M) (nI N) (nI R) H fd (n + 1) (nI m) st (ch_cs ps cu se N ca m) fu mc hb ba ps cu se wf pa := by
  intro n
  induction n with
  | zero =>
    intro m hm
    obtain rfl : m = M := by omega
    exact br_t (Int32.le_refl _) hp
  | succ n ih =>
    intro m hm
    have i8 : vp_in (nI m) 8 := vp_in_nI (by omega) (by omega)
    exact br_f (nI_ge (by omega) (by omega)) ⟨i8, ch_xVM (by omega) hN ⟨i8, nm_r (by rw [nI_clamp (by omega)]; rfl) (nm_r (nI_1 m) (ih (m + 1) (by omega)))⟩⟩
theorem ch_yS2 {post : Int32 → SY → Prop} (hN : N ≤ 4) (hp : post 1 ((nI M), (nI N), (nI R), H, st, ca, fu, mc, ps, hb, bb, cu, ch_sl cu se N, wf, pb)) : ∀ n i, i + n = N → wY_settle_78 post (nI M) (nI N) (nI R) H (n + 1) (nI i) st ca fu mc ps hb bb cu (ch_sl cu se i) wf pb := by
  intro n
  induction n with
  | zero =>
    intro i hi
    obtain rfl : i = N := by omega
    exact br_t (Int32.le_refl _) hp
  | succ n ih =>
    intro i hi
    have i4 : vp_in (nI i) 4 := vp_in_nI (by omega) (by omega)
    exact br_f (nI_ge (by omega) (by omega)) ⟨i4, i4, nm_r (by rw [nI_clamp (by omega)]; rfl) (nm_r (nI_1 i) (ih (i + 1) (by omega)))⟩
theorem ch_yS3 {post : Int32 → SY → Prop} {J : Int32 → (Nat → Int32) → (Nat → Int64) → (Nat → Int64) → (Nat → Int64) → (Nat → Int32) → (Nat → Int32) → (Nat → Int64) → (Nat → Int32) → (Nat → Int32) → (Nat → Int64) → (Nat → Int64) → Prop} {m : Nat} (hm : m < 8) (hN : N ≤ 4)
    (hp : J (nI (m + 1)) st (vp_updL ca m (ca m + ch_vm ps cu se m N)) fu mc ps hb bb cu se wf pb) : ∀ n i, i + n = N → wY_settle_21 post J (nI m) (nI M) (nI N) (nI R) H (n + 1) (nI i) st (vp_updL ca m (ca m + ch_vm ps cu se m i)) fu mc ps hb bb cu se wf pb := by
  intro n
  induction n with
  | zero =>
    intro i hi
    obtain rfl : i = N := by omega
    exact br_t (Int32.le_refl _) (nm_r (nI_1 m) hp)
  | succ n ih =>
    intro i hi
    have i4 : vp_in (nI i) 4 := vp_in_nI (by omega) (by omega)
    have i8 : vp_in (nI m) 8 := vp_in_nI (by omega) (by omega)
    have i32 : vp_in (nI m * 4 + nI i) 32 := by rw [ch_slot]; exact vp_in_nI (by omega) (by omega)
    refine br_f (nI_ge (by omega) (by omega)) ⟨i8, i32, i4, i4, i8, nm_r ?_ (nm_r (nI_1 i) (ih (i + 1) (by omega)))⟩
    rw [nI_clamp (by omega), ch_slot, nI_clamp (by omega), nI_clamp (by omega), ch_uLs, ch_uuL, Int64.add_assoc]
    rfl
theorem ch_yS1 {post : Int32 → SY → Prop} (hM : M ≤ 8) (hN : N ≤ 4) (hp : ∃ n, wY_settle_78 post (nI M) (nI N) (nI R) H n 0 st (ch_cs ps cu se N ca M) fu mc ps hb bb cu se wf pb) : ∀ n m, m + n = M → wY_settle_11 post (nI M) (nI N) (nI R) H (n + 1) (nI m) st (ch_cs ps cu se N ca m) fu mc ps hb bb cu se wf pb := by
  intro n
  induction n with
  | zero =>
    intro m hm
    obtain rfl : m = M := by omega
    exact br_t (Int32.le_refl _) hp
  | succ n ih =>
    intro m hm
    refine br_f (nI_ge (by omega) (by omega)) ⟨N + 1, ?_⟩
    have e : vp_updL (ch_cs ps cu se N ca m) m (ch_cs ps cu se N ca m m + ch_vm ps cu se m 0) = ch_cs ps cu se N ca m := ch_uLId (Int64.add_zero _).symm
    have z := ch_yS3 (post := post) (J := wY_settle_11 post (nI M) (nI N) (nI R) H (n + 1)) (H := H) (M := M) (R := R) (st := st) (ca := ch_cs ps cu se N ca m) (fu := fu) (mc := mc) (hb := hb) (bb := bb) (ps := ps) (cu := cu) (se := se) (wf := wf) (pb := pb) (m := m) (by omega) hN (ih (m + 1) (by omega)) N 0 (by omega)
    rw [e] at z
    exact z
theorem ch_settle {k : Nat} {u : SX} {v : SY} (I : i_Rel k u v) (hk : k + 5 ≤ 2564) :
    ∃ (r : Int32) (u' : SX) (v' : SY), i_Rel (k + 5) u' v' ∧ (∀ post : Int32 → SX → Prop, post r u' → wpX_settle post u) ∧ (∀ post : Int32 → SY → Prop, post r v' → wpY_settle post v) := by
  have J := i_up I
  obtain ⟨M, N, R, H, fd, st, ca, fu, mc, hb, ba, bb, ps, cu, se, wf, pa, pb, rfl, rfl, hc, hp, hi, hf, ha, ho, hr⟩ := I
  have hM := hc.1.2
  have hN := hc.2.1.2
  rcases id hp with ⟨e, hn⟩ | ⟨d, hd, e, h1, hn⟩
  case inr =>
    have z : ¬ fd = -1 := by rw [e]; exact ch_ne1 (by omega)
    exact ⟨0, _, _, J, fun post hp => br_f z (br_f ch_n10 hp), fun post hp => ch_yDs hM hd h1 hn (br_f (nI_pos (by omega)) hp)⟩
  have Q : ch_Ca (k + 5) (ch_cs ps cu se N ca M) := by
    intro j
    rw [ch_csE]
    split
    · exact ch_aLM (ch_aLadd (ha j) (ch_vmB hM ho hr N hN) (by omega)) (by omega)
    · exact ch_aLM (ha j) (by omega)
  have P : ch_Pr cu (ch_sl cu se N) := by
    intro j hj
    rw [ch_slE]
    split
    · exact ⟨(hr j hj).1, (hr j hj).1⟩
    · exact hr j hj
  refine ⟨1, _, _, ch_mk (H := H) (mc := mc) (wf := wf) (pa := pa) (pb := pb) (k := k + 5) ⟨hc, hp, hi, ch_FdU hf (by omega), Q, ho, P⟩, fun post hp => br_t e (br_t rfl ?_), fun post hp => ch_yDn hM hn (br_t ch_m1 ?_)⟩
  · exact ⟨M + 1, ch_xS1 hM hN ⟨N + 1, ch_xS2 hN hp N 0 (by omega)⟩ M 0 (by omega)⟩
  · exact ⟨M + 1, ch_yS1 hM hN ⟨N + 1, ch_yS2 hN hp N 0 (by omega)⟩ M 0 (by omega)⟩
theorem i_vc_settle {k : Nat} {u : SX} {v : SY} (I : i_Rel k u v) (hk : k + 5 ≤ 2564) : wpX_settle (fun r u' => wpY_settle (fun r' v' => r' = r ∧ i_Rel (k + 5) u' v') v) u := by
  obtain ⟨r, u', v', F, hX, hY⟩ := ch_settle I hk
  exact hX _ (hY _ ⟨rfl, F⟩)
/-! callMargins -/
def ch_sf (st : Nat → Int32) (ca : Nat → Int64) (ps se : Nat → Int32) (N R m : Nat) : Int64 := if st m = 0 then (if ch_L (ch_im (ch_p ps se R m) N) - ca m ≤ 0 then 0 else ch_L (ch_im (ch_p ps se R m) N) - ca m) else 0
def ch_ms (s : Nat → Int64) (mc : Nat → Int64) : Nat → Nat → Int64
  | 0 => mc
  | m + 1 => vp_updL (ch_ms s mc m) m (s m)
def ch_ct (s : Nat → Int64) : Nat → Int32
  | 0 => 0
  | m + 1 => if s m ≤ 0 then ch_ct s m else ch_ct s m + 1
theorem ch_xSF {post : Int64 → Prop} {m : Nat} (hm : m < 8) (hN : N ≤ 4) (hR : 1 ≤ R ∧ R ≤ 50) (hr : ch_Pr cu se) (h : post (ch_sf st ca ps se N R m)) : wpX_shortfall post ((nI M), (nI N), (nI R), H, fd, st, ca, fu, mc, hb, ba, ps, cu, se, wf, pa) (nI m) := by
  have i8 : vp_in (nI m) 8 := vp_in_nI (by omega) (by omega)
  have c8 : (nI m).toNatClampNeg = m := nI_clamp (by omega)
  unfold ch_sf at h
  by_cases s0 : st m = 0
  · rw [if_pos s0] at h
    refine ⟨i8, br_t (by rw [c8]; exact s0) (ch_xIM hm hN hR hr ⟨i8, nm_r (by rw [c8]) ?_⟩)⟩
    generalize ch_L (ch_im (ch_p ps se R m) N) - ca m = c at h
    unfold wpX_greater
    by_cases q : c ≤ 0
    · rw [if_pos q] at h
      by_cases z : (0 : Int64) ≤ c
      · have e : c = 0 := Int64.le_antisymm q z
        exact br_t z (by rw [e]; exact h)
      · exact br_f z h
    · rw [if_neg q] at h
      exact br_t (Int64.le_of_lt (Int64.not_le.mp q)) h
  · rw [if_neg s0] at h
    exact ⟨i8, br_f (by rw [c8]; exact s0) h⟩
theorem ch_xCM {post : Int32 → SX → Prop} (hM : M ≤ 8) (hN : N ≤ 4) (hR : 1 ≤ R ∧ R ≤ 50) (hr : ch_Pr cu se) (hp : post (ch_ct (ch_sf st ca ps se N R) M) ((nI M), (nI N), (nI R), H, fd, st, ca, fu, ch_ms (ch_sf st ca ps se N R) mc M, hb, ba, ps, cu, se, wf, pa)) :
    ∀ n m, m + n = M → wX_callMargins_13 post (nI M) (nI N) (nI R) H fd (n + 1) (ch_ct (ch_sf st ca ps se N R) m) (nI m) st ca fu (ch_ms (ch_sf st ca ps se N R) mc m) hb ba ps cu se wf pa := by
  intro n
  induction n with
  | zero =>
    intro m hm
    obtain rfl : m = M := by omega
    exact br_t (Int32.le_refl _) hp
  | succ n ih =>
    intro m hm
    have i8 : vp_in (nI m) 8 := vp_in_nI (by omega) (by omega)
    have c8 : (nI m).toNatClampNeg = m := nI_clamp (by omega)
    have e : ch_ms (ch_sf st ca ps se N R) mc (m + 1) (nI m).toNatClampNeg = ch_sf st ca ps se N R m := by rw [c8]; exact ch_uLs
    have z := ih (m + 1) (by omega)
    refine br_f (nI_ge (by omega) (by omega)) (ch_xSF (by omega) hN hR hr ⟨i8, nm_r (e' := ch_ms (ch_sf st ca ps se N R) mc (m + 1)) (by rw [c8]; rfl) ⟨i8, ?_⟩⟩)
    by_cases q : ch_sf st ca ps se N R m ≤ 0
    · rw [show ch_ct (ch_sf st ca ps se N R) (m + 1) = ch_ct (ch_sf st ca ps se N R) m from if_pos q] at z
      exact br_t (by rw [e]; exact q) (nm_r (nI_1 m) z)
    · rw [show ch_ct (ch_sf st ca ps se N R) (m + 1) = ch_ct (ch_sf st ca ps se N R) m + 1 from if_neg q] at z
      exact br_f (by rw [e]; exact q) (nm_e (nm_r (nI_1 m) z))
theorem ch_yCM {post : Int32 → SY → Prop} (hM : M ≤ 8) (hN : 1 ≤ N ∧ N ≤ 4) (hR : 1 ≤ R ∧ R ≤ 50) (hr : ch_Pr cu se) (hp : post (ch_ct (ch_sf st ca ps se N R) M) ((nI M), (nI N), (nI R), H, st, ca, fu, ch_ms (ch_sf st ca ps se N R) mc M, ps, hb, bb, cu, se, wf, pb)) :
    ∀ n m, m + n = M → wY_callMargins_13 post (nI M) (nI N) (nI R) H (n + 1) (ch_ct (ch_sf st ca ps se N R) m) (nI m) st ca fu (ch_ms (ch_sf st ca ps se N R) mc m) ps hb bb cu se wf pb := by
  intro n
  induction n with
  | zero =>
    intro m hm
    obtain rfl : m = M := by omega
    exact br_t (Int32.le_refl _) hp
  | succ n ih =>
    intro m hm
    have i8 : vp_in (nI m) 8 := vp_in_nI (by omega) (by omega)
    have c8 : (nI m).toNatClampNeg = m := nI_clamp (by omega)
    have e : ch_ms (ch_sf st ca ps se N R) mc (m + 1) (nI m).toNatClampNeg = ch_sf st ca ps se N R m := by rw [c8]; exact ch_uLs
    have z := ih (m + 1) (by omega)
    have last : wY_callMargins_70 post (wY_callMargins_13 post (nI M) (nI N) (nI R) H (n + 1)) (ch_ct (ch_sf st ca ps se N R) m) (nI m) (nI M) (nI N) (nI R) H st ca fu (ch_ms (ch_sf st ca ps se N R) mc (m + 1)) ps hb bb cu se wf pb := by
      refine ⟨i8, ?_⟩
      by_cases q : ch_sf st ca ps se N R m ≤ 0
      · rw [show ch_ct (ch_sf st ca ps se N R) (m + 1) = ch_ct (ch_sf st ca ps se N R) m from if_pos q] at z
        exact br_t (by rw [e]; exact q) (nm_r (nI_1 m) z)
      · rw [show ch_ct (ch_sf st ca ps se N R) (m + 1) = ch_ct (ch_sf st ca ps se N R) m + 1 from if_neg q] at z
        exact br_f (by rw [e]; exact q) (nm_e (nm_r (nI_1 m) z))
    have sv : ∀ x, ch_sf st ca ps se N R m = x → vp_updL (ch_ms (ch_sf st ca ps se N R) mc m) (nI m).toNatClampNeg x = ch_ms (ch_sf st ca ps se N R) mc (m + 1) := by
      intro x hx; rw [c8, ← hx]; rfl
    refine br_f (nI_ge (by omega) (by omega)) ⟨i8, ?_⟩
    by_cases s0 : st m = 0
    · refine br_t (by rw [c8]; exact s0) (ch_yIM (by omega) hN hR hr ⟨i8, nm_r (by rw [c8]) ?_⟩)
      have es : ch_sf st ca ps se N R m = if ch_L (ch_im (ch_p ps se R m) N) - ca m ≤ 0 then 0 else ch_L (ch_im (ch_p ps se R m) N) - ca m := if_pos s0
      generalize ch_L (ch_im (ch_p ps se R m) N) - ca m = c at es
      by_cases q : c ≤ 0
      · rw [if_pos q] at es
        exact br_t q ⟨i8, nm_r (sv _ es) last⟩
      · rw [if_neg q] at es
        exact br_f q ⟨i8, nm_r (sv _ es) last⟩
    · exact br_f (by rw [c8]; exact s0) ⟨i8, nm_r (sv 0 (if_neg s0)) last⟩
theorem ch_callMargins {k : Nat} {u : SX} {v : SY} (I : i_Rel k u v) (hk : k + 5 ≤ 2564) :
    ∃ (r : Int32) (u' : SX) (v' : SY), i_Rel (k + 5) u' v' ∧ (∀ post : Int32 → SX → Prop, post r u' → wpX_callMargins post u) ∧ (∀ post : Int32 → SY → Prop, post r v' → wpY_callMargins post v) := by
  have J := i_up I
  obtain ⟨M, N, R, H, fd, st, ca, fu, mc, hb, ba, bb, ps, cu, se, wf, pa, pb, rfl, rfl, hc, hp, hi, hf, ha, ho, hr⟩ := I
  have hM := hc.1.2
  have hN := hc.2.1.2
  rcases id hp with ⟨e, hn⟩ | ⟨d, hd, e, h1, hn⟩
  case inr =>
    have z : ¬ fd = -1 := by rw [e]; exact ch_ne1 (by omega)
    exact ⟨-1, _, _, J, fun post hp => br_f z (br_f ch_n10 hp), fun post hp => ch_yDs hM hd h1 hn (br_f (nI_pos (by omega)) hp)⟩
  refine ⟨ch_ct (ch_sf st ca ps se N R) M, _, _, ch_mk (H := H) (mc := ch_ms (ch_sf st ca ps se N R) mc M) (wf := wf) (pa := pa) (pb := pb) (k := k + 5) ⟨hc, hp, hi, ch_FdU hf (by omega), ch_CaU ha (by omega), ho, hr⟩, fun post hp => br_t e (br_t rfl ?_), fun post hp => ch_yDn hM hn (br_t ch_m1 ?_)⟩
  · exact ⟨M + 1, ch_xCM hM hN hc.2.2 hr hp M 0 (by omega)⟩
  · exact ⟨M + 1, ch_yCM hM hc.2.1 hc.2.2 hr hp M 0 (by omega)⟩
theorem i_vc_callMargins {k : Nat} {u : SX} {v : SY} (I : i_Rel k u v) (hk : k + 5 ≤ 2564) : wpX_callMargins (fun r u' => wpY_callMargins (fun r' v' => r' = r ∧ i_Rel (k + 5) u' v') v) u := by
  obtain ⟨r, u', v', F, hX, hY⟩ := ch_callMargins I hk
  exact hX _ (hY _ ⟨rfl, F⟩)
/-! declareDefault -/
theorem ch_xSC {post : Int32 → Prop} (hM : M ≤ 8) (hp : post (nI (ch_ca st M))) : wpX_survivorCount post ((nI M), (nI N), (nI R), H, fd, st, ca, fu, mc, hb, ba, ps, cu, se, wf, pa) := by
  have L : ∀ n m, m + n = M → wX_survivorCount_4 post (nI M) (nI N) (nI R) H fd st ca fu mc hb ba ps cu se wf pa (n + 1) (nI (ch_ca st m)) (nI m) := by
    intro n
    induction n with
    | zero =>
      intro m hm
      obtain rfl : m = M := by omega
      exact br_t (Int32.le_refl _) hp
    | succ n ih =>
      intro m hm
      have i8 : vp_in (nI m) 8 := vp_in_nI (by omega) (by omega)
      have c8 : (nI m).toNatClampNeg = m := nI_clamp (by omega)
      have z := ih (m + 1) (by omega)
      refine br_f (nI_ge (by omega) (by omega)) ⟨i8, ?_⟩
      by_cases s0 : st m = 0
      · rw [show ch_ca st (m + 1) = ch_ca st m + 1 from congrArg (ch_ca st m + ·) (if_pos s0)] at z
        exact br_t (by rw [c8]; exact s0) (nm_r (nI_1 _) (nm_r (nI_1 m) z))
      · rw [show ch_ca st (m + 1) = ch_ca st m from congrArg (ch_ca st m + ·) (if_neg s0)] at z
        exact br_f (by rw [c8]; exact s0) (nm_r (nI_1 m) z)
  exact ⟨M + 1, L M 0 (by omega)⟩
theorem ch_xCB {post : SX → Prop} (hM : M ≤ 8) (h : ∀ j, M ≤ j → hb j = 0) (hp : post ((nI M), (nI N), (nI R), H, fd, st, ca, fu, mc, (fun _ => 0), ba, ps, cu, se, wf, pa)) : wpX_clearBids post ((nI M), (nI N), (nI R), H, fd, st, ca, fu, mc, hb, ba, ps, cu, se, wf, pa) := by
  have L : ∀ n m (hb : Nat → Int32), m + n = M → (∀ j, M ≤ j → hb j = 0) → (∀ j, j < m → hb j = 0) → wX_clearBids_2 post (nI M) (nI N) (nI R) H fd (n + 1) (nI m) st ca fu mc hb ba ps cu se wf pa := by
    intro n
    induction n with
    | zero =>
      intro m hb hm h1 h2
      obtain rfl : m = M := by omega
      obtain rfl : hb = fun _ => 0 := by
        funext j
        by_cases q : j < m
        · exact h2 j q
        · exact h1 j (by omega)
      exact br_t (Int32.le_refl _) hp
    | succ n ih =>
      intro m hb hm h1 h2
      have i8 : vp_in (nI m) 8 := vp_in_nI (by omega) (by omega)
      refine br_f (nI_ge (by omega) (by omega)) ⟨i8, nm_r (by rw [nI_clamp (by omega), ch_v0]) (nm_r (nI_1 m) (ih (m + 1) _ (by omega) ?_ ?_))⟩
      · intro j hj; rw [ch_un (by omega)]; exact h1 j hj
      · intro j hj
        by_cases q : j = m
        · rw [q, ch_us]
        · rw [ch_un q]; exact h2 j (by omega)
  exact ⟨M + 1, L M 0 hb (by omega) h (fun j hj => absurd hj (Nat.not_lt_zero _))⟩
theorem ch_yCB {post : Int32 → SY → Prop} (h : ∀ j, 8 ≤ j → hb j = 0) (hp : ∀ bb', post 1 ((nI M), (nI N), (nI R), H, st, ca, fu, mc, ps, (fun _ => 0), bb', cu, se, wf, pb)) : ∃ n, wY_declareDefault_96 post (nI M) (nI N) (nI R) H n 0 st ca fu mc ps hb bb cu se wf pb := by
  have L : ∀ n m (hb : Nat → Int32) (bb : Nat → Int64), m + n = 8 → (∀ j, 8 ≤ j → hb j = 0) → (∀ j, j < m → hb j = 0) → wY_declareDefault_96 post (nI M) (nI N) (nI R) H (n + 1) (nI m) st ca fu mc ps hb bb cu se wf pb := by
    intro n
    induction n with
    | zero =>
      intro m hb bb hm h1 h2
      obtain rfl : m = 8 := by omega
      obtain rfl : hb = fun _ => 0 := by
        funext j
        by_cases q : j < 8
        · exact h2 j q
        · exact h1 j (by omega)
      exact br_t (Int32.le_refl _) (hp bb)
    | succ n ih =>
      intro m hb bb hm h1 h2
      have i8 : vp_in (nI m) 8 := vp_in_nI (by omega) (by omega)
      refine br_f (nI_ge (b := 8) (by omega) (by omega)) ⟨i8, nm_r (by rw [nI_clamp (by omega), ch_v0]) ⟨i8, nm_e (nm_r (nI_1 m) (ih (m + 1) _ _ (by omega) ?_ ?_))⟩⟩
      · intro j hj; rw [ch_un (by omega)]; exact h1 j hj
      · intro j hj
        by_cases q : j = m
        · rw [q, ch_us]
        · rw [ch_un q]; exact h2 j (by omega)
  exact ⟨9, L 8 0 hb bb (by omega) h (fun j hj => absurd hj (Nat.not_lt_zero _))⟩
theorem ch_yCB' {post : Int32 → SY → Prop} (h : ∀ j, 8 ≤ j → hb j = 0) (hp : ∀ bb', post 1 ((nI M), (nI N), (nI R), H, st, ca, fu, mc, ps, (fun _ => 0), bb', cu, se, wf, pb)) : ∃ n, wY_closeAuction_704 post (nI M) (nI N) (nI R) H n 0 st ca fu mc ps hb bb cu se wf pb := by
  have L : ∀ n m (hb : Nat → Int32) (bb : Nat → Int64), m + n = 8 → (∀ j, 8 ≤ j → hb j = 0) → (∀ j, j < m → hb j = 0) → wY_closeAuction_704 post (nI M) (nI N) (nI R) H (n + 1) (nI m) st ca fu mc ps hb bb cu se wf pb := by
    intro n
    induction n with
    | zero =>
      intro m hb bb hm h1 h2
      obtain rfl : m = 8 := by omega
      obtain rfl : hb = fun _ => 0 := by
        funext j
        by_cases q : j < 8
        · exact h2 j q
        · exact h1 j (by omega)
      exact br_t (Int32.le_refl _) (hp bb)
    | succ n ih =>
      intro m hb bb hm h1 h2
      have i8 : vp_in (nI m) 8 := vp_in_nI (by omega) (by omega)
      refine br_f (nI_ge (b := 8) (by omega) (by omega)) ⟨i8, nm_r (by rw [nI_clamp (by omega), ch_v0]) ⟨i8, nm_e (nm_r (nI_1 m) (ih (m + 1) _ _ (by omega) ?_ ?_))⟩⟩
      · intro j hj; rw [ch_un (by omega)]; exact h1 j hj
      · intro j hj
        by_cases q : j = m
        · rw [q, ch_us]
        · rw [ch_un q]; exact h2 j (by omega)
  exact ⟨9, L 8 0 hb bb (by omega) h (fun j hj => absurd hj (Nat.not_lt_zero _))⟩
theorem ch_yDD {post : Int32 → SY → Prop} {d : Nat} (hM : M ≤ 8) (hd : d < M) (h0 : ch_co st d M = 0 → post 0 ((nI M), (nI N), (nI R), H, st, ca, fu, mc, ps, hb, bb, cu, se, wf, pb)) (h1 : ¬ ch_co st d M = 0 → ∃ n, wY_declareDefault_96 post (nI M) (nI N) (nI R) H n 0 (upd st d 1) ca fu (vp_updL mc d 0) ps hb bb cu se wf pb) :
    ∀ n m, m + n = M → wY_declareDefault_43 post (nI d) (nI M) (nI N) (nI R) H st ca fu mc ps hb bb cu se wf pb (n + 1) (nI (ch_co st d m)) (nI m) := by
  intro n
  induction n with
  | zero =>
    intro m hm
    obtain rfl : m = M := by omega
    have i8 : vp_in (nI d) 8 := vp_in_nI (by omega) (by omega)
    have c8 : (nI d).toNatClampNeg = d := nI_clamp (by omega)
    have B := ch_coB st d m
    refine br_t (Int32.le_refl _) ?_
    by_cases q : ch_co st d m = 0
    · exact br_t (by rw [q]; rfl) (h0 q)
    · exact br_f (nI_ne0 (by omega) (by omega)) ⟨i8, nm_r (by rw [c8]) ⟨i8, nm_r (by rw [c8]) (h1 q)⟩⟩
  | succ n ih =>
    intro m hm
    have i8 : vp_in (nI m) 8 := vp_in_nI (by omega) (by omega)
    have c8 : (nI m).toNatClampNeg = m := nI_clamp (by omega)
    have z := ih (m + 1) (by omega)
    refine br_f (nI_ge (by omega) (by omega)) ?_
    by_cases e : m = d
    · rw [show ch_co st d (m + 1) = ch_co st d m from congrArg (ch_co st d m + ·) (if_neg (fun y => y.1 e))] at z
      exact br_t (by rw [e]) (nm_r (nI_1 m) z)
    · refine br_f (fun y => e ((nI_eq (by omega) (by omega)).mp y)) ⟨i8, ?_⟩
      by_cases s0 : st m = 0
      · rw [show ch_co st d (m + 1) = ch_co st d m + 1 from congrArg (ch_co st d m + ·) (if_pos ⟨e, s0⟩)] at z
        exact br_t (by rw [c8]; exact s0) (nm_r (nI_1 _) (nm_r (nI_1 m) z))
      · rw [show ch_co st d (m + 1) = ch_co st d m from congrArg (ch_co st d m + ·) (if_neg (fun y => s0 y.2))] at z
        exact br_f (by rw [c8]; exact s0) (nm_r (nI_1 m) z)
theorem ch_declareDefault {k : Nat} {u : SX} {v : SY} (I : i_Rel k u v) (hk : k + 5 ≤ 2564) (v1 : Int32) :
    (∃ (r : Int32) (u' : SX) (v' : SY), i_Rel (k + 5) u' v' ∧ (∀ post : Int32 → SX → Prop, post r u' → wpX_declareDefault post u v1) ∧ (∀ post : Int32 → SY → Prop, post r v' → wpY_declareDefault post v v1)) ∨
    (∃ (u' : SX) (v' : (Nat → Int64) → SY), (∀ b, i_Rel (k + 5) u' (v' b)) ∧ (∀ post : Int32 → SX → Prop, post 1 u' → wpX_declareDefault post u v1) ∧ (∀ post : Int32 → SY → Prop, (∀ b, post 1 (v' b)) → wpY_declareDefault post v v1)) := by
  have J := i_up I
  obtain ⟨M, N, R, H, fd, st, ca, fu, mc, hb, ba, bb, ps, cu, se, wf, pa, pb, rfl, rfl, hc, hp, hi, hf, ha, ho, hr⟩ := I
  have hM := hc.1.2
  have hN := hc.2.1.2
  rcases id hp with ⟨e, hn⟩ | ⟨d, hd, e, h1, hn⟩
  case inr =>
    have z : ¬ fd = -1 := by rw [e]; exact ch_ne1 (by omega)
    exact Or.inl ⟨0, _, _, J, fun post hp => br_f z (br_f ch_n10 hp), fun post hp => ch_yDs hM hd h1 hn (br_f (nI_pos (by omega)) hp)⟩
  rcases ch_sort v1 (n := M) (by omega) with h | ⟨h, h'⟩ | ⟨m, hm, rfl, h, h'⟩
  · exact Or.inl ⟨0, _, _, J, fun post hp => br_t e (br_t rfl (br_t h (br_t rfl hp))), fun post hp => ch_yDn hM hn (br_t ch_m1 (br_t h (br_t rfl hp)))⟩
  · exact Or.inl ⟨0, _, _, J, fun post hp => br_t e (br_t rfl (br_f h (br_t h' (br_t rfl hp)))), fun post hp => ch_yDn hM hn (br_t ch_m1 (br_f h (br_t h' (br_t rfl hp))))⟩
  have i8 : vp_in (nI m) 8 := vp_in_nI (by omega) (by omega)
  have c8 : (nI m).toNatClampNeg = m := nI_clamp (by omega)
  by_cases s0 : st (nI m).toNatClampNeg = 0
  case neg => exact Or.inl ⟨0, _, _, J, fun post hp => br_t e (br_t rfl (br_f h (br_f h' (br_f ch_n10 ⟨i8, br_f s0 hp⟩)))), fun post hp => ch_yDn hM hn (br_t ch_m1 (br_f h (br_f h' (br_f ch_n10 ⟨i8, br_f s0 hp⟩))))⟩
  by_cases c0 : mc (nI m).toNatClampNeg ≤ 0
  · have c0' : ¬ 0 < mc (nI m).toNatClampNeg := Int64.not_lt.mpr c0
    exact Or.inl ⟨0, _, _, J, fun post hp => br_t e (br_t rfl (br_f h (br_f h' (br_f ch_n10 ⟨i8, br_t s0 ⟨i8, br_t c0 hp⟩⟩)))), fun post hp => ch_yDn hM hn (br_t ch_m1 (br_f h (br_f h' (br_f ch_n10 ⟨i8, br_t s0 ⟨i8, br_f c0' hp⟩⟩))))⟩
  have c0' : 0 < mc (nI m).toNatClampNeg := Int64.not_le.mp c0
  have s1 : st m = 0 := by rw [← c8]; exact s0
  have CE := ch_coE s1 M
  rw [if_pos hm] at CE
  have CB := ch_caB st M
  by_cases q : ch_co st m M = 0
  · have x2 : ¬ (2 : Int32) ≤ nI (ch_ca st M) := nI_ge (b := 2) (by omega) (by decide)
    exact Or.inl ⟨0, _, _, J, fun post hp => br_t e (br_t rfl (br_f h (br_f h' (br_f ch_n10 ⟨i8, br_t s0 ⟨i8, br_f c0 (ch_xSC hM (br_f x2 hp))⟩⟩)))), fun post hp => ch_yDn hM hn (br_t ch_m1 (br_f h (br_f h' (br_f ch_n10 ⟨i8, br_t s0 ⟨i8, br_t c0' ⟨M + 1, ch_yDD hM hm (fun _ => hp) (fun z => absurd q z) M 0 (by omega)⟩⟩⟩))))⟩
  · have x2 : (2 : Int32) ≤ nI (ch_ca st M) := nI_le (a := 2) (by omega) (by omega)
    have PH : ch_Ph M (nI m) (upd st m 1) := Or.inr ⟨m, hm, rfl, ch_us, fun j hj hne => by rw [ch_un hne]; exact hn j hj⟩
    have PO : ch_Po M (upd st m 1) ps := by
      intro s
      have := ho s
      unfold ch_pb at this ⊢
      rw [ch_cdN (by rw [s1]; decide) (by decide)]
      exact this
    have BI : ∀ b, ch_Bi M (fun _ => 0) ba b := fun b => ⟨fun j _ => rfl, fun j hj => absurd rfl hj⟩
    exact Or.inr ⟨_, fun b => ((nI M), (nI N), (nI R), H, upd st m 1, ca, fu, vp_updL mc m 0, ps, (fun _ => 0), b, cu, se, wf, pb), fun b => ch_mk ⟨hc, PH, BI b, ch_FdU hf (by omega), ch_CaU ha (by omega), PO, hr⟩,
      fun post hp => br_t e (br_t rfl (br_f h (br_f h' (br_f ch_n10 ⟨i8, br_t s0 ⟨i8, br_f c0 (ch_xSC hM (br_t x2 ⟨i8, nm_r (by rw [c8]) ⟨i8, nm_r (by rw [c8]) (ch_xCB hM hi.1 hp)⟩⟩))⟩⟩)))),
      fun post hp => ch_yDn hM hn (br_t ch_m1 (br_f h (br_f h' (br_f ch_n10 ⟨i8, br_t s0 ⟨i8, br_t c0' ⟨M + 1, ch_yDD hM hm (fun z => absurd z q) (fun _ => ch_yCB (fun j hj => hi.1 j (by omega)) hp) M 0 (by omega)⟩⟩⟩))))⟩
theorem i_vc_declareDefault {k : Nat} {u : SX} {v : SY} (I : i_Rel k u v) (hk : k + 5 ≤ 2564) (v1 : Int32) : wpX_declareDefault (fun r u' => wpY_declareDefault (fun r' v' => r' = r ∧ i_Rel (k + 5) u' v') v v1) u v1 := by
  rcases ch_declareDefault I hk v1 with ⟨r, u', v', F, hX, hY⟩ | ⟨u', v', F, hX, hY⟩
  · exact hX _ (hY _ ⟨rfl, F⟩)
  · exact hX _ (hY _ (fun b => ⟨rfl, F b⟩))
end CHH
