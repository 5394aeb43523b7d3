section CPC
/-! the law's own walks -/
variable {k M N R : Nat} {E : Int64} {H : Int64} {fd : Int32} {st : Nat → Int32} {ca fu mc : Nat → Int64} {hb ba : Nat → Int32} {ps cu se : Nat → Int32} {wf pa : Nat → Int64}
theorem cp_gP {post : Int32 → Prop} {m i : Nat} (hM : M ≤ 8) (hN : N ≤ 4) (hm : m < M) (hi : i < N) (hp : post (ps (m * 4 + i))) : wpX_getPosition post ((nI M), (nI N), (nI R), H, fd, st, ca, fu, mc, hb, ba, ps, cu, se, wf, pa) (nI m) (nI i) := by
  refine br_f (nI_pos (by omega)) (br_f (nI_ge hm (by omega)) (br_f ch_n10 (br_f (nI_pos (by omega)) (br_f (nI_ge hi (by omega)) (br_f ch_n10 (ch_xSlot ⟨vp_in_nI (by omega) (by omega), ?_⟩))))))
  rw [nI_clamp (by omega)]
  exact hp
theorem cp_gC {post : Int64 → Prop} {m : Nat} (hM : M ≤ 8) (hm : m < M) (hp : post (ca m)) : wpX_getBalance post ((nI M), (nI N), (nI R), H, fd, st, ca, fu, mc, hb, ba, ps, cu, se, wf, pa) (nI m) 0 := by
  refine br_f (nI_pos (by omega)) (br_f (nI_ge hm (by omega)) (br_f ch_n10 (br_t rfl (br_f ch_n10 (br_t rfl ⟨vp_in_nI (by omega) (by omega), ?_⟩)))))
  rw [nI_clamp (by omega)]
  exact hp
theorem cp_gF {post : Int64 → Prop} {m : Nat} (hM : M ≤ 8) (hm : m < M) (hp : post (fu m)) : wpX_getBalance post ((nI M), (nI N), (nI R), H, fd, st, ca, fu, mc, hb, ba, ps, cu, se, wf, pa) (nI m) 1 := by
  refine br_f (nI_pos (by omega)) (br_f (nI_ge hm (by omega)) (br_f ch_n10 (br_f ch_n10 (br_t rfl (br_f ch_n10 (br_f ch_n10 ⟨vp_in_nI (by omega) (by omega), ?_⟩))))))
  rw [nI_clamp (by omega)]
  exact hp
theorem cp_holds {u : St2} {post : Int32 → Prop} (I : cp_RX k M N R E u) (hp : post 1) : wpL_holds post u (nI M) (nI N) E := by
  obtain ⟨H, fd, st, ca, fu, mc, hb, ba, ps, cu, se, wf, pa, rfl, hc, _, _, _, _, _, _, hz, he, _⟩ := I
  have hM := hc.1.2
  have hN := hc.2.1.2
  have L65 : ∀ n m, m + n = M → wL_holds_65 post (nI M) E (nI M) (nI N) (nI R) H fd st ca fu mc hb ba ps cu se wf pa (n + 1) (H + ch_sL ca m + ch_sL fu m) (nI m) := by
    intro n
    induction n with
    | zero =>
      intro m hm
      obtain rfl : m = M := by omega
      exact br_t (Int32.le_refl _) (br_t he hp)
    | succ n ih =>
      intro m hm
      refine br_f (nI_ge (by omega) (by omega)) (cp_gC hM (by omega) (nm_e (cp_gF hM (by omega) (nm_r (e' := H + ch_sL ca (m + 1) + ch_sL fu (m + 1)) ?_ (nm_r (nI_1 m) (ih (m + 1) (by omega)))))))
      show H + ch_sL ca m + ch_sL fu m + ca m + fu m = H + (ch_sL ca m + ca m) + (ch_sL fu m + fu m)
      grind
  have L3 : ∀ n i, i + n = N → wL_holds_3 post (nI M) (nI N) E (nI M) (nI N) (nI R) H fd st ca fu mc hb ba ps cu se wf pa (n + 1) (nI i) := by
    intro n
    induction n with
    | zero =>
      intro i hi
      obtain rfl : i = N := by omega
      refine br_t (Int32.le_refl _) ⟨M + 1, ?_⟩
      have z := L65 M 0 (by omega)
      rw [show H + ch_sL ca 0 + ch_sL fu 0 = H from (Int64.add_zero _).trans (Int64.add_zero _)] at z
      exact z
    | succ n ih =>
      intro i hi
      have L15 : ∀ l m, m + l = M → wL_holds_15 post (wL_holds_3 post (nI M) (nI N) E (nI M) (nI N) (nI R) H fd st ca fu mc hb ba ps cu se wf pa (n + 1)) (nI M) (nI N) E (nI i) (nI M) (nI N) (nI R) H fd st ca fu mc hb ba ps cu se wf pa (l + 1) (ch_L (ch_sI (fun m => (ps (m * 4 + i)).toInt) m)) (nI m) := by
        intro l
        induction l with
        | zero =>
          intro m hm
          obtain rfl : m = M := by omega
          refine br_t (Int32.le_refl _) (br_t ?_ (nm_r (nI_1 i) (ih (i + 1) (by omega))))
          rw [hz i (by omega)]; decide
        | succ l ihl =>
          intro m hm
          refine br_f (nI_ge (by omega) (by omega)) (cp_gP hM hN (by omega) (by omega) (nm_r ?_ (nm_r (nI_1 m) (ihl (m + 1) (by omega)))))
          rw [ch_Li, ch_Ladd]; rfl
      exact br_f (nI_ge (by omega) (by omega)) ⟨M + 1, L15 M 0 (by omega)⟩
  exact ⟨N + 1, L3 N 0 (by omega)⟩
theorem cp_cell {post : Int32 → Prop} {L a : Nat} {xs : Nat → Int32} (hL : L ≤ 260) (ha : a < 2147483648) (hp : ∀ r, post r) : wpL_cell post L xs () (nI a) := by
  by_cases c : L ≤ a
  · exact br_t (nI_le c ha) (hp _)
  · exact br_f (nI_ge (by omega) (by omega)) ⟨vp_in_nI (by omega) (by omega), hp _⟩
theorem cp_red {post : Int32 → Prop} {p0 p1 : Int32} (h : ¬ p1 = 0) (hp : ∀ r, post r) : wpL_red post () p0 p1 :=
  ⟨h, fun x _ => br_c (fun _ => hp _) (fun _ => hp _)⟩
theorem cp_523 {post : Int32 → Prop} {L : Nat} {xs : Nat → Int32} {J : Int64 → Int64 → Int32 → Int32 → Int32 → Int32 → Int64 → Int32 → (Nat → Int32) → (Nat → Int64) → (Nat → Int64) → (Nat → Int64) → (Nat → Int32) → (Nat → Int32) → (Nat → Int32) → (Nat → Int32) → (Nat → Int32) → (Nat → Int64) → (Nat → Int64) → Prop} {x8 x10 x12 : Int64} {x14 : Int32} {x kc ks : Nat}
    (I : cp_IX k M N R (x8 + x10 - x12) H fd st ca fu hb ba ps cu se) (hJ : J x10 x12 (nI (x + 4)) (nI M) (nI N) (nI R) H fd st ca fu mc hb ba ps cu se wf pa) : wL_law_523 post L xs J (nI M) (nI N) x8 x10 x12 x14 (nI x) kc ks (nI M) (nI N) (nI R) H fd st ca fu mc hb ba ps cu se wf pa :=
  cp_holds (cp_mk I) (br_f ch_n10 (nm_r (nI_add x 4) hJ))
theorem cp_158 {L : Nat} {xs : Nat → Int32} {x8 : Int64} {kc ks : Nat} (hL : L ≤ 260) (hc : ch_Cn M N R) : ∀ (n x : Nat) (x10 x12 : Int64) (H : Int64) (fd : Int32) (st : Nat → Int32) (ca fu mc : Nat → Int64) (hb ba ps cu se : Nat → Int32) (wf pa : Nat → Int64),
    x ≤ 300 → L ≤ x + 4 * n → cp_IX (3 * x) M N R (x8 + x10 - x12) H fd st ca fu hb ba ps cu se → wL_law_158 (fun r => r = 1) L xs (nI M) (nI N) x8 (nI M) kc ks (n + 1) x10 x12 (nI x) (nI M) (nI N) (nI R) H fd st ca fu mc hb ba ps cu se wf pa := by
  intro n
  induction n with
  | zero =>
    intro x x10 x12 H fd st ca fu mc hb ba ps cu se wf pa hx hLx I
    exact br_t (nI_le (by omega) (by omega)) rfl
  | succ n ih =>
    intro x x10 x12 H fd st ca fu mc hb ba ps cu se wf pa hx hLx I
    by_cases c : L ≤ x
    · exact br_t (nI_le c (by omega)) rfl
    have hM1 : ¬ nI M + 1 = 0 := by rw [nI_1]; exact nI_ne0 (by omega) (by have := hc.1.2; omega)
    have hN1 : ¬ nI N + 1 = 0 := by rw [nI_1]; exact nI_ne0 (by omega) (by have := hc.2.1.2; omega)
    have U : cp_RX (3 * x) M N R (x8 + x10 - x12) ((nI M), (nI N), (nI R), H, fd, st, ca, fu, mc, hb, ba, ps, cu, se, wf, pa) := cp_mk I
    have go : ∀ {x10 x12 : Int64} {k' : Nat} {H : Int64} {fd : Int32} {st : Nat → Int32} {ca fu mc : Nat → Int64} {hb ba ps cu se : Nat → Int32} {wf pa : Nat → Int64}, k' ≤ 3 * (x + 4) → cp_IX k' M N R (x8 + x10 - x12) H fd st ca fu hb ba ps cu se → wL_law_523 (fun r => r = 1) L xs (wL_law_158 (fun r => r = 1) L xs (nI M) (nI N) x8 (nI M) kc ks (n + 1)) (nI M) (nI N) x8 x10 x12 (nI M) (nI x) kc ks (nI M) (nI N) (nI R) H fd st ca fu mc hb ba ps cu se wf pa := by
      intro x10 x12 k' H fd st ca fu mc hb ba ps cu se wf pa hk' I'
      refine cp_523 I' (ih (x + 4) _ _ _ _ _ _ _ _ _ _ _ _ _ _ _ (by omega) (by omega) ?_)
      obtain ⟨a1, a2, a3, a4, a5, a6, a7, a8, a9, a10⟩ := I'
      exact ⟨a1, a2, a3, ch_FdU a4 hk', ch_CaU a5 hk', a6, a7, a8, a9, a10⟩
    refine br_f (nI_ge (by omega) (by omega)) (cp_cell hL (by omega) (fun r64 => cp_red (by decide) (fun r65 => ?_)))
    rw [nI_1 x, show nI x + 2 = nI (x + 2) from nI_add x 2, show nI x + 3 = nI (x + 3) from nI_add x 3]
    refine cp_cell hL (by omega) (fun r66 => cp_cell hL (by omega) (fun r67 => cp_cell hL (by omega) (fun r68 => cp_red hM1 (fun r69 => ?_))))
    by_cases o0 : r65 = 0
    · refine br_t o0 (cp_red (by decide) (fun r486 => nm_e (cp_red (by decide) (fun r488 => ?_))))
      refine cp_deposit U (by omega) (fun u' h => ?_) (fun u' h => ?_)
      · obtain ⟨H, fd, st, ca, fu, mc, hb, ba, ps, cu, se, wf, pa, rfl, I'⟩ := h
        exact br_t rfl (go (by omega) I')
      · obtain ⟨H, fd, st, ca, fu, mc, hb, ba, ps, cu, se, wf, pa, rfl, I'⟩ := h
        rw [show x8 + x10 - x12 + (r486 - 50).toInt64 = x8 + (x10 + (r486 - 50).toInt64) - x12 by grind] at I'
        exact br_f ch_n10 (nm_e (go (by omega) I'))
    refine br_f o0 ?_
    by_cases o1 : r65 = 1
    · refine br_t o1 (cp_red (by decide) (fun r442 => nm_e (cp_red (by decide) (fun r444 => ?_))))
      refine cp_withdraw U (by omega) (fun u' h => ?_) (fun u' h => ?_)
      · obtain ⟨H, fd, st, ca, fu, mc, hb, ba, ps, cu, se, wf, pa, rfl, I'⟩ := h
        exact br_t rfl (go (by omega) I')
      · obtain ⟨H, fd, st, ca, fu, mc, hb, ba, ps, cu, se, wf, pa, rfl, I'⟩ := h
        rw [show x8 + x10 - x12 - (r442 - 50).toInt64 = x8 + x10 - (x12 + (r442 - 50).toInt64) by grind] at I'
        exact br_f ch_n10 (nm_e (go (by omega) I'))
    refine br_f o1 ?_
    by_cases o2 : r65 = 2
    · refine br_t o2 (cp_red hN1 (fun r401 => cp_red (by decide) (fun r402 => cp_quote U (fun r u' h => ?_))))
      obtain ⟨H, fd, st, ca, fu, mc, hb, ba, ps, cu, se, wf, pa, rfl, I'⟩ := h
      exact go (by omega) I'
    refine br_f o2 ?_
    by_cases o3 : r65 = 3
    · refine br_t o3 (cp_red hM1 (fun r358 => cp_red hN1 (fun r359 => ⟨by decide, cp_red (by decide) (fun r361 => cp_trade U (by omega) (fun r u' h => ?_))⟩)))
      obtain ⟨H, fd, st, ca, fu, mc, hb, ba, ps, cu, se, wf, pa, rfl, I'⟩ := h
      exact go (by omega) I'
    refine br_f o3 ?_
    by_cases o4 : r65 = 4
    · refine br_t o4 (cp_settle U (by omega) (fun r u' h => ?_))
      obtain ⟨H, fd, st, ca, fu, mc, hb, ba, ps, cu, se, wf, pa, rfl, I'⟩ := h
      exact go (by omega) I'
    refine br_f o4 ?_
    by_cases o5 : r65 = 5
    · refine br_t o5 (cp_callMargins U (fun r u' h => ?_))
      obtain ⟨H, fd, st, ca, fu, mc, hb, ba, ps, cu, se, wf, pa, rfl, I'⟩ := h
      exact go (by omega) I'
    refine br_f o5 ?_
    by_cases o6 : r65 = 6
    · refine br_t o6 (cp_declare U (fun r u' h => ?_))
      obtain ⟨H, fd, st, ca, fu, mc, hb, ba, ps, cu, se, wf, pa, rfl, I'⟩ := h
      exact go (by omega) I'
    refine br_f o6 ?_
    by_cases o7 : r65 = 7
    · refine br_t o7 (cp_red (by decide) (fun r201 => cp_bid U (fun r u' h => ?_)))
      obtain ⟨H, fd, st, ca, fu, mc, hb, ba, ps, cu, se, wf, pa, rfl, I'⟩ := h
      exact go (by omega) I'
    refine br_f o7 ?_
    by_cases o8 : r65 = 8
    · refine br_t o8 (cp_close U (by omega) (fun r u' h => ?_))
      obtain ⟨H, fd, st, ca, fu, mc, hb, ba, ps, cu, se, wf, pa, rfl, I'⟩ := h
      exact go (by omega) I'
    refine br_f o8 (cp_callMargins U (fun r u' h => ?_))
    have h' := h
    obtain ⟨H, fd, st, ca, fu, mc, hb, ba, ps, cu, se, wf, pa, rfl, I'⟩ := h
    refine cp_holds h' (br_f ch_n10 (cp_declare h' (fun r u'' h'' => ?_)))
    obtain ⟨H, fd, st, ca, fu, mc, hb, ba, ps, cu, se, wf, pa, rfl, I''⟩ := h''
    exact go (by omega) I''
theorem cp_74 {L C : Nat} {xs : Nat → Int32} {x2 x3 : Int32} {kc ks : Nat} (hL : L ≤ 260) (hc : ch_Cn M N R) (hst : st = fun _ => 0)
    (hN : ∀ (P : Int32 → Prop) (Q : Prop), P (nI N) → (P (nI 1) → Q) → ((nI 1 ≤ x2 → ((x2 ≤ nI 4 → P x2) ∧ (¬ x2 ≤ nI 4 → P (nI 4)))) ∧ (¬ nI 1 ≤ x2 → Q)))
    (hC : ∀ (P : Int32 → Prop) (Q : Prop), P (nI C) → (P (nI 0) → Q) → ((nI 0 ≤ x3 → ((x3 ≤ nI 1000000 → P x3) ∧ (¬ x3 ≤ nI 1000000 → P (nI 1000000)))) ∧ (¬ nI 0 ≤ x3 → Q)))
    (I : cp_IX 12 M N R (nI C).toInt64 (nI C).toInt64 fd st ca fu hb ba ps cu se) :
    ∀ n j c, j + n = 16 → c = (if j < M then j else M) → wL_law_74 (fun r => r = 1) L xs x2 x3 kc ks (nI M) (nI N) (nI R) ((nI C).toInt64) fd st ca fu mc hb ba ps cu se wf pa (n + 1) (nI c) (nI j) := by
  have hM := hc.1
  intro n
  induction n with
  | zero =>
    intro j c hj ec
    obtain rfl : j = 16 := by omega
    obtain rfl : c = M := by rw [ec, if_neg (by omega)]
    have xN : ∀ post : Int32 → Prop, post (nI N) → wpL_clamp post () x2 1 4 := fun post p => hN post (post (nI 1)) p id
    have xC : ∀ post : Int32 → Prop, post (nI C) → wpL_clamp post () x3 0 1000000 := fun post p => hC post (post (nI 0)) p id
    refine br_t (Int32.le_refl _) (xN _ (xC _ (cp_holds (cp_mk I) (br_f ch_n10 (br_t (nI_le (a := 1) (by omega) (by omega)) ⟨65, ?_⟩)))))
    refine cp_158 hL hc 64 4 0 0 _ _ _ _ _ _ _ _ _ _ _ _ _ (by omega) (by omega) ?_
    rw [show (nI C).toInt64 + 0 - 0 = (nI C).toInt64 by grind]
    exact I
  | succ n ih =>
    intro j c hj ec
    have z := ih (j + 1)
    refine br_f (nI_ge (b := 16) (by omega) (by omega)) ?_
    by_cases q : j < M
    · refine br_f (nI_pos (by omega)) (br_f (nI_ge q (by omega)) (br_f ch_n10 ⟨vp_in_nI (by omega) (by omega), br_f ?_ (nm_r (nI_1 c) (nm_r (nI_1 j) (ih (j + 1) (c + 1) (by omega) ?_)))⟩))
      · rw [hst]; exact (by decide : ¬ (0 : Int32) = -1)
      · rw [ec, if_pos q]
        by_cases y : j + 1 < M
        · rw [if_pos y]
        · rw [if_neg y]; omega
    · refine br_f (nI_pos (by omega)) (br_t (nI_le (by omega) (by omega)) (br_t rfl (br_t rfl (nm_r (nI_1 j) (ih (j + 1) c (by omega) ?_)))))
      rw [ec, if_neg q, if_neg (by omega)]
theorem i_vc (xs : Nat → Int32) (L : Nat) (hL : L ≤ 260) : wpL_law (fun r => r = 1) L xs := by
  refine cp_cell (a := 0) hL (by omega) (fun r1 => cp_red (by decide) (fun r2 => nm_e ?_))
  refine cp_cell (a := 1) hL (by omega) (fun r4 => cp_red (by decide) (fun r5 => nm_e ?_))
  refine cp_cell (a := 2) hL (by omega) (fun r7 => cp_red (by decide) (fun r8 => nm_e ?_))
  refine cp_cell (a := 3) hL (by omega) (fun r10 => cp_red (by decide) (fun r11 => nm_e ?_))
  generalize r2 - 1 = k0
  generalize r5 - 1 = k1
  generalize r8 - 100000 = k2
  generalize r11 - 2 = k3
  obtain ⟨M, m1, m2, hM⟩ := ch_clamp k0 2 8 (by omega) (by omega)
  obtain ⟨N, n1, n2, hN⟩ := ch_clamp k1 1 4 (by omega) (by omega)
  obtain ⟨C, c1, c2, hC⟩ := ch_clamp k2 0 1000000 (by omega) (by omega)
  obtain ⟨R, r1, r2, hR⟩ := ch_clamp k3 1 50 (by omega) (by omega)
  have xM : ∀ post : Int32 → Prop, post (nI M) → wpX_clamp post () k0 2 8 := fun post p => hM post (post (nI 2)) p id
  have xN : ∀ post : Int32 → Prop, post (nI N) → wpX_clamp post () k1 1 4 := fun post p => hN post (post (nI 1)) p id
  have xC : ∀ post : Int32 → Prop, post (nI C) → wpX_clamp post () k2 0 1000000 := fun post p => hC post (post (nI 0)) p id
  have xR : ∀ post : Int32 → Prop, post (nI R) → wpX_clamp post () k3 1 50 := fun post p => hR post (post (nI 1)) p id
  have hc : ch_Cn M N R := ⟨⟨m1, m2⟩, ⟨n1, n2⟩, ⟨r1, r2⟩⟩
  refine ⟨11, 103, by omega, by omega, ?_⟩
  unfold wpX_init
  refine ⟨by omega, by omega, by omega, by omega, by omega, by omega, by omega, by omega, by omega, by omega, by omega, by omega, by omega, by omega, by omega, by omega, by omega, by omega, by omega, by omega, by omega, by omega, ?_⟩
  refine xM _ (xN _ (xR _ (xC _ (ch_xIni ?_))))
  refine ⟨17, ?_⟩
  have p100 : ch_pr (100 : Int32) := by
    have : (100 : Int32).toInt = 100 := by decide
    unfold ch_pr; rw [this]; omega
  have z0 : (0 : Int64).toInt = 0 := by decide
  have s0 : ∀ n, ch_sL (fun _ => (0 : Int64)) n = 0 := by
    intro n
    induction n with
    | zero => rfl
    | succ n ih => show ch_sL (fun _ => (0 : Int64)) n + 0 = 0; rw [ih]; rfl
  have i0 : ∀ n, ch_sI (fun _ => (0 : Int)) n = 0 := by
    intro n
    induction n with
    | zero => rfl
    | succ n ih => show ch_sI (fun _ => (0 : Int)) n + 0 = 0; rw [ih]; rfl
  refine cp_74 hL hc rfl hN hC ⟨hc, Or.inl ⟨rfl, fun j _ => (by decide : ¬ (0 : Int32) = 1)⟩, ⟨fun j _ => rfl, fun j hj => absurd rfl hj⟩, fun j => ?_, fun j => ?_, fun s => ?_, fun i hi => ?_, fun i hi => ?_, ?_, Or.inl rfl⟩ 16 0 0 (by omega) (by rw [if_pos (by omega)])
  · show 0 ≤ (0 : Int64).toInt ∧ (0 : Int64).toInt ≤ _
    rw [z0]; omega
  · show ch_aL _ (0 : Int64)
    unfold ch_aL; rw [z0]; omega
  · have b := ch_pbB (st := fun _ => (0 : Int32)) (M := M) m2
    exact ch_ab0 (by omega)
  · rw [ch_iniE 4 i hi]
    exact ⟨p100, p100⟩
  · exact i0 M
  · rw [s0]
    exact (Int64.add_zero _).trans (Int64.add_zero _)
end CPC
