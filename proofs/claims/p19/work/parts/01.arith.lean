section CHA
/-! A: longs and ints by integers -/
def ch_L (z : Int) : Int64 := Int64.ofInt z
def ch_I (z : Int) : Int32 := Int32.ofInt z
theorem ch_LT {z : Int} (h : -9223372036854775808 ≤ z) (h' : z < 9223372036854775808) : (ch_L z).toInt = z := Int64.toInt_ofInt_of_le h h'
theorem ch_IT {z : Int} (h : -2147483648 ≤ z) (h' : z < 2147483648) : (ch_I z).toInt = z := Int32.toInt_ofInt_of_le h h'
theorem ch_Lof (x : Int64) : ch_L x.toInt = x := Int64.ofInt_toInt x
theorem ch_Iof (x : Int32) : ch_I x.toInt = x := Int32.ofInt_toInt x
theorem ch_Ladd (a b : Int) : ch_L a + ch_L b = ch_L (a + b) := (Int64.ofInt_add a b).symm
theorem ch_Lsub (a b : Int) : ch_L a - ch_L b = ch_L (a - b) := (Int64.ofInt_sub a b).symm
theorem ch_Lmul (a b : Int) : ch_L a * ch_L b = ch_L (a * b) := (Int64.ofInt_mul a b).symm
theorem ch_Lneg (a : Int) : -ch_L a = ch_L (-a) := (Int64.ofInt_neg a).symm
theorem ch_Iadd (a b : Int) : ch_I a + ch_I b = ch_I (a + b) := (Int32.ofInt_add a b).symm
theorem ch_Isub (a b : Int) : ch_I a - ch_I b = ch_I (a - b) := (Int32.ofInt_sub a b).symm
theorem ch_Imul (a b : Int) : ch_I a * ch_I b = ch_I (a * b) := (Int32.ofInt_mul a b).symm
theorem ch_Ineg (a : Int) : -ch_I a = ch_I (-a) := (Int32.ofInt_neg a).symm
theorem ch_Li (x : Int32) : x.toInt64 = ch_L x.toInt := rfl
theorem ch_LI {z : Int} (h : -2147483648 ≤ z) (h' : z < 2147483648) : (ch_I z).toInt64 = ch_L z := by
  rw [ch_Li, ch_IT h h']
theorem ch_IL (z : Int) : (ch_L z).toInt32 = ch_I z := Int64.toInt32_ofInt
theorem ch_Ln (n : Nat) : lN n = ch_L n := Int64.ofInt_eq_ofNat.symm
theorem ch_In (n : Nat) : nI n = ch_I n := Int32.ofInt_eq_ofNat.symm
theorem ch_Llt {a b : Int} (ha : -9223372036854775808 ≤ a) (ha' : a < 9223372036854775808) (hb : -9223372036854775808 ≤ b) (hb' : b < 9223372036854775808) : ch_L a < ch_L b ↔ a < b := by
  rw [Int64.lt_iff_toInt_lt, ch_LT ha ha', ch_LT hb hb']
theorem ch_Lle {a b : Int} (ha : -9223372036854775808 ≤ a) (ha' : a < 9223372036854775808) (hb : -9223372036854775808 ≤ b) (hb' : b < 9223372036854775808) : ch_L a ≤ ch_L b ↔ a ≤ b := by
  rw [Int64.le_iff_toInt_le, ch_LT ha ha', ch_LT hb hb']
theorem ch_Ilt {a b : Int} (ha : -2147483648 ≤ a) (ha' : a < 2147483648) (hb : -2147483648 ≤ b) (hb' : b < 2147483648) : ch_I a < ch_I b ↔ a < b := by
  rw [Int32.lt_iff_toInt_lt, ch_IT ha ha', ch_IT hb hb']
theorem ch_Ile {a b : Int} (ha : -2147483648 ≤ a) (ha' : a < 2147483648) (hb : -2147483648 ≤ b) (hb' : b < 2147483648) : ch_I a ≤ ch_I b ↔ a ≤ b := by
  rw [Int32.le_iff_toInt_le, ch_IT ha ha', ch_IT hb hb']
theorem ch_addL {x y : Int64} (h : -9223372036854775808 ≤ x.toInt + y.toInt) (h' : x.toInt + y.toInt < 9223372036854775808) : (x + y).toInt = x.toInt + y.toInt := by
  rw [Int64.toInt_add, Int.bmod_eq_of_le (by omega) (by omega)]
theorem ch_subL {x y : Int64} (h : -9223372036854775808 ≤ x.toInt - y.toInt) (h' : x.toInt - y.toInt < 9223372036854775808) : (x - y).toInt = x.toInt - y.toInt := by
  rw [Int64.toInt_sub, Int.bmod_eq_of_le (by omega) (by omega)]
theorem ch_negL {x : Int64} (h : -9223372036854775808 < x.toInt) : (-x).toInt = -x.toInt := by
  have := x.toInt_lt
  rw [Int64.toInt_neg, Int.bmod_eq_of_le (by omega) (by omega)]
theorem ch_mulL {x y : Int64} (h : -9223372036854775808 ≤ x.toInt * y.toInt) (h' : x.toInt * y.toInt < 9223372036854775808) : (x * y).toInt = x.toInt * y.toInt := by
  rw [Int64.toInt_mul, Int.bmod_eq_of_le (by omega) (by omega)]
theorem ch_addI {x y : Int32} (h : -2147483648 ≤ x.toInt + y.toInt) (h' : x.toInt + y.toInt < 2147483648) : (x + y).toInt = x.toInt + y.toInt := by
  rw [Int32.toInt_add, Int.bmod_eq_of_le (by omega) (by omega)]
theorem ch_subI {x y : Int32} (h : -2147483648 ≤ x.toInt - y.toInt) (h' : x.toInt - y.toInt < 2147483648) : (x - y).toInt = x.toInt - y.toInt := by
  rw [Int32.toInt_sub, Int.bmod_eq_of_le (by omega) (by omega)]
theorem ch_mulI {x y : Int32} (h : -2147483648 ≤ x.toInt * y.toInt) (h' : x.toInt * y.toInt < 2147483648) : (x * y).toInt = x.toInt * y.toInt := by
  rw [Int32.toInt_mul, Int.bmod_eq_of_le (by omega) (by omega)]
theorem ch_absmul {a b A B : Int} (ha : -A ≤ a) (ha' : a ≤ A) (hb : -B ≤ b) (hb' : b ≤ B) : -(A * B) ≤ a * b ∧ a * b ≤ A * B := by
  have hA : 0 ≤ A := by omega
  have hB : 0 ≤ B := by omega
  have h1 := Int.mul_nonneg (show 0 ≤ A - a by omega) (show 0 ≤ B - b by omega)
  have h2 := Int.mul_nonneg (show 0 ≤ A - a by omega) (show 0 ≤ B + b by omega)
  have h3 := Int.mul_nonneg (show 0 ≤ A + a by omega) (show 0 ≤ B - b by omega)
  have h4 := Int.mul_nonneg (show 0 ≤ A + a by omega) (show 0 ≤ B + b by omega)
  constructor <;> grind
theorem ch_us {f : Nat → Int32} {k : Nat} {x : Int32} : upd f k x k = x := if_pos rfl
theorem ch_un {f : Nat → Int32} {k j : Nat} {x : Int32} (h : j ≠ k) : upd f k x j = f j := if_neg h
theorem ch_uLs {f : Nat → Int64} {k : Nat} {x : Int64} : vp_updL f k x k = x := if_pos rfl
theorem ch_uLn {f : Nat → Int64} {k j : Nat} {x : Int64} (h : j ≠ k) : vp_updL f k x j = f j := if_neg h
theorem ch_uId {f : Nat → Int32} {k : Nat} {x : Int32} (h : f k = x) : upd f k x = f := by
  funext j; unfold upd; split
  · next e => rw [e, h]
  · rfl
theorem ch_uLId {f : Nat → Int64} {k : Nat} {x : Int64} (h : f k = x) : vp_updL f k x = f := by
  funext j; unfold vp_updL; split
  · next e => rw [e, h]
  · rfl
theorem ch_uAll {f : Nat → Int32} {P : Int32 → Prop} {k : Nat} {x : Int32} (h : ∀ j, P (f j)) (hx : P x) : ∀ j, P (upd f k x j) := by
  intro j; unfold upd; split
  · exact hx
  · exact h j
theorem ch_uLAll {f : Nat → Int64} {P : Int64 → Prop} {k : Nat} {x : Int64} (h : ∀ j, P (f j)) (hx : P x) : ∀ j, P (vp_updL f k x j) := by
  intro j; unfold vp_updL; split
  · exact hx
  · exact h j
theorem ch_uuL {f : Nat → Int64} {k : Nat} {x y : Int64} : vp_updL (vp_updL f k x) k y = vp_updL f k y := by
  funext j; unfold vp_updL; split <;> rfl
theorem ch_uu {f : Nat → Int32} {k : Nat} {x y : Int32} : upd (upd f k x) k y = upd f k y := by
  funext j; unfold upd; split <;> rfl
/-! B: the greatest loss: pairs of scenarios against codes -/
def ch_mx (a b : Int) : Int := if b < a then a else b
theorem ch_mxL (a b : Int) : a ≤ ch_mx a b := by unfold ch_mx; split <;> omega
theorem ch_mxR (a b : Int) : b ≤ ch_mx a b := by unfold ch_mx; split <;> omega
theorem ch_mxE (a b : Int) : ch_mx a b = a ∨ ch_mx a b = b := by unfold ch_mx; split <;> simp
def ch_dg (x : Nat) : Int := ((x % 5 : Nat) : Int) - 2
theorem ch_dgR (x : Nat) : -2 ≤ ch_dg x ∧ ch_dg x ≤ 2 := by unfold ch_dg; omega
def ch_ys (p : Nat → Int) : Nat → Nat → Nat → Int
  | 0, _, _ => 0
  | n + 1, i, x => p i * ch_dg x + ch_ys p n (i + 1) (x / 5)
def ch_yd (a b : Int) : Nat → Nat → Prop
  | 0, _ => True
  | n + 1, x => (a ≤ ch_dg x ∧ ch_dg x ≤ b) ∧ ch_yd a b n (x / 5)
def ch_xw (p : Nat → Int) (l : Int) : Nat → Nat → Int
  | 0, _ => 0
  | n + 1, i => ch_mx (-(p i) * l) (-(p i) * (l + 1)) + ch_xw p l n (i + 1)
def ch_yh : Nat → Nat → Int → Int
  | 0, _, h => h
  | n + 1, x, h => ch_yh n (x / 5) (if h < ch_dg x then ch_dg x else h)
def ch_yl : Nat → Nat → Int → Int
  | 0, _, l => l
  | n + 1, x, l => ch_yl n (x / 5) (if ch_dg x < l then ch_dg x else l)
theorem ch_yhGe : ∀ (n x : Nat) (h : Int), h ≤ ch_yh n x h := by
  intro n
  induction n with
  | zero => intro x h; exact Int.le_refl _
  | succ n ih =>
    intro x h
    have := ih (x / 5) (if h < ch_dg x then ch_dg x else h)
    show h ≤ ch_yh n (x / 5) (if h < ch_dg x then ch_dg x else h)
    split at this <;> split <;> omega
theorem ch_yhGeD (n x : Nat) (h : Int) : ch_dg x ≤ ch_yh (n + 1) x h := by
  have := ch_yhGe n (x / 5) (if h < ch_dg x then ch_dg x else h)
  show ch_dg x ≤ ch_yh n (x / 5) (if h < ch_dg x then ch_dg x else h)
  split at this <;> split <;> omega
theorem ch_ylLe : ∀ (n x : Nat) (l : Int), ch_yl n x l ≤ l := by
  intro n
  induction n with
  | zero => intro x h; exact Int.le_refl _
  | succ n ih =>
    intro x l
    have := ih (x / 5) (if ch_dg x < l then ch_dg x else l)
    show ch_yl n (x / 5) (if ch_dg x < l then ch_dg x else l) ≤ l
    split at this <;> split <;> omega
theorem ch_ylLeD (n x : Nat) (l : Int) : ch_yl (n + 1) x l ≤ ch_dg x := by
  have := ch_ylLe n (x / 5) (if ch_dg x < l then ch_dg x else l)
  show ch_yl n (x / 5) (if ch_dg x < l then ch_dg x else l) ≤ ch_dg x
  split at this <;> split <;> omega
theorem ch_yhLe {a b : Int} : ∀ (n x : Nat) (h : Int), ch_yd a b n x → h ≤ b → ch_yh n x h ≤ b := by
  intro n
  induction n with
  | zero => intro x h _ hb; exact hb
  | succ n ih =>
    intro x h hd hb
    exact ih (x / 5) _ hd.2 (by have := hd.1; split <;> omega)
theorem ch_ylGe {a b : Int} : ∀ (n x : Nat) (l : Int), ch_yd a b n x → a ≤ l → a ≤ ch_yl n x l := by
  intro n
  induction n with
  | zero => intro x h _ hb; exact hb
  | succ n ih =>
    intro x h hd hb
    exact ih (x / 5) _ hd.2 (by have := hd.1; split <;> omega)
theorem ch_ydR : ∀ (n x : Nat), ch_yd (-2) 2 n x := by
  intro n
  induction n with
  | zero => intro x; trivial
  | succ n ih => intro x; exact ⟨ch_dgR x, ih _⟩
theorem ch_ydM {a b a' b' : Int} (ha : a' ≤ a) (hb : b ≤ b' ∨ 2 ≤ b') : ∀ (n x : Nat), ch_yd a b n x → ch_yd a' b' n x := by
  intro n
  induction n with
  | zero => intro x _; trivial
  | succ n ih =>
    intro x h
    have := ch_dgR x
    have := h.1
    exact ⟨⟨by omega, by omega⟩, ih _ h.2⟩
theorem ch_ydHL : ∀ (n x : Nat) (h l : Int), ch_yd (ch_yl n x l) (ch_yh n x h) n x := by
  intro n
  induction n with
  | zero => intro x h l; trivial
  | succ n ih =>
    intro x h l
    exact ⟨⟨ch_ylLeD n x l, ch_yhGeD n x h⟩, ih (x / 5) _ _⟩
def ch_adm (n x : Nat) : Prop := ch_yh n x (-3) - ch_yl n x 3 ≤ 1
theorem ch_admOf {k : Int} (h1 : -2 ≤ k) (h2 : k ≤ 1) {n x : Nat} (h : ch_yd k (k + 1) n x) : ch_adm n x := by
  have a := ch_yhLe n x (-3) h (by omega)
  have b := ch_ylGe n x 3 h (by omega)
  unfold ch_adm; omega
theorem ch_admTo {n x : Nat} (h : ch_adm (n + 1) x) : ∃ k : Int, -2 ≤ k ∧ k ≤ 1 ∧ ch_yd k (k + 1) (n + 1) x := by
  have a := ch_ylLeD n x 3
  have b := ch_dgR x
  have c := ch_ylGe (n + 1) x 3 (ch_ydR (n + 1) x) (by omega)
  have d := ch_ydHL (n + 1) x (-3) 3
  unfold ch_adm at h
  by_cases e : ch_yl (n + 1) x 3 ≤ 1
  · exact ⟨ch_yl (n + 1) x 3, c, e, ch_ydM (Int.le_refl _) (Or.inl (by omega)) _ _ d⟩
  · exact ⟨1, by omega, by omega, ch_ydM (by omega) (Or.inr (by omega)) _ _ d⟩
theorem ch_lossLe (p : Nat → Int) {k : Int} : ∀ (n i x : Nat), ch_yd k (k + 1) n x → -ch_ys p n i x ≤ ch_xw p k n i := by
  intro n
  induction n with
  | zero => intro i x _; exact Int.le_refl _
  | succ n ih =>
    intro i x h
    have h1 := ih (i + 1) (x / 5) h.2
    have h2 := ch_mxL (-(p i) * k) (-(p i) * (k + 1))
    have h3 := ch_mxR (-(p i) * k) (-(p i) * (k + 1))
    show -(p i * ch_dg x + ch_ys p n (i + 1) (x / 5)) ≤ ch_mx (-(p i) * k) (-(p i) * (k + 1)) + ch_xw p k n (i + 1)
    have h4 : ch_dg x = k ∨ ch_dg x = k + 1 := by have := h.1; omega
    rcases h4 with e | e <;> rw [e]
    · have : -(p i) * k = -(p i * k) := Int.neg_mul _ _
      omega
    · have : -(p i) * (k + 1) = -(p i * (k + 1)) := Int.neg_mul _ _
      omega
theorem ch_lossEx (p : Nat → Int) {k : Int} (h1 : -2 ≤ k) (h2 : k ≤ 1) : ∀ (n i : Nat), ∃ x : Nat, x < 5 ^ n ∧ ch_yd k (k + 1) n x ∧ -ch_ys p n i x = ch_xw p k n i := by
  intro n
  induction n with
  | zero => intro i; exact ⟨0, by decide, trivial, rfl⟩
  | succ n ih =>
    intro i
    obtain ⟨x, hx, hd, he⟩ := ih (i + 1)
    have key : ∀ c : Int, c = k ∨ c = k + 1 → -(p i) * c = ch_mx (-(p i) * k) (-(p i) * (k + 1)) → ∃ x : Nat, x < 5 ^ (n + 1) ∧ ch_yd k (k + 1) (n + 1) x ∧ -ch_ys p (n + 1) i x = ch_xw p k (n + 1) i := by
      intro c hc hm
      obtain ⟨d, hd5, hdc⟩ : ∃ d : Nat, d < 5 ∧ (d : Int) = c + 2 := ⟨(c + 2).toNat, by omega, by omega⟩
      have e1 : (5 * x + d) / 5 = x := by omega
      have e2 : ch_dg (5 * x + d) = c := by
        have : (5 * x + d) % 5 = d := by omega
        unfold ch_dg; rw [this]; omega
      refine ⟨5 * x + d, by rw [Nat.pow_succ]; omega, ?_, ?_⟩
      · show (k ≤ ch_dg (5 * x + d) ∧ ch_dg (5 * x + d) ≤ k + 1) ∧ ch_yd k (k + 1) n ((5 * x + d) / 5)
        rw [e1, e2]; exact ⟨⟨by omega, by omega⟩, hd⟩
      · show -(p i * ch_dg (5 * x + d) + ch_ys p n (i + 1) ((5 * x + d) / 5)) = ch_mx (-(p i) * k) (-(p i) * (k + 1)) + ch_xw p k n (i + 1)
        rw [e1, e2, ← hm, ← he, Int.neg_mul]; omega
    rcases ch_mxE (-(p i) * k) (-(p i) * (k + 1)) with e | e
    · exact key k (Or.inl rfl) e.symm
    · exact key (k + 1) (Or.inr rfl) e.symm
def ch_im (p : Nat → Int) (n : Nat) : Int := ch_mx (ch_mx (ch_mx (ch_mx 0 (ch_xw p (-2) n 0)) (ch_xw p (-1) n 0)) (ch_xw p 0 n 0)) (ch_xw p 1 n 0)
/-- what is known of the greatest loss over the codes below e -/
def ch_best (p : Nat → Int) (n e : Nat) (b : Int) : Prop := 0 ≤ b ∧ (∀ x, x < e → ch_adm n x → -ch_ys p n 0 x ≤ b) ∧ (b = 0 ∨ ∃ x, x < e ∧ ch_adm n x ∧ b = -ch_ys p n 0 x)
theorem ch_best0 (p : Nat → Int) (n : Nat) : ch_best p n 0 0 := ⟨Int.le_refl _, fun x h => absurd h (Nat.not_lt_zero _), Or.inl rfl⟩
theorem ch_bestY {p : Nat → Int} {n e : Nat} {b : Int} (h : ch_best p n e b) (ha : ch_adm n e) (hb : b < -ch_ys p n 0 e) : ch_best p n (e + 1) (-ch_ys p n 0 e) := by
  refine ⟨by have := h.1; omega, fun x hx hxa => ?_, Or.inr ⟨e, Nat.lt_succ_self e, ha, rfl⟩⟩
  by_cases q : x = e
  · rw [q]; exact Int.le_refl _
  · have := h.2.1 x (by omega) hxa; omega
theorem ch_bestN {p : Nat → Int} {n e : Nat} {b : Int} (h : ch_best p n e b) (hb : ch_adm n e → ¬ b < -ch_ys p n 0 e) : ch_best p n (e + 1) b := by
  refine ⟨h.1, fun x hx hxa => ?_, ?_⟩
  · by_cases q : x = e
    · have := hb (q ▸ hxa); rw [q]; omega
    · exact h.2.1 x (by omega) hxa
  · rcases h.2.2 with q | ⟨x, hx, hxa, he⟩
    · exact Or.inl q
    · exact Or.inr ⟨x, by omega, hxa, he⟩
theorem ch_bestU {p : Nat → Int} {n : Nat} {b : Int} (h : ch_best p (n + 1) (5 ^ (n + 1)) b) : b = ch_im p (n + 1) := by
  have a0 : ∀ k : Int, -2 ≤ k → k ≤ 1 → ch_xw p k (n + 1) 0 ≤ b := by
    intro k h1 h2
    obtain ⟨x, hx, hd, he⟩ := ch_lossEx p h1 h2 (n + 1) 0
    rw [← he]
    exact h.2.1 x hx (ch_admOf h1 h2 hd)
  have i1 := ch_mxL (ch_mx (ch_mx (ch_mx 0 (ch_xw p (-2) (n + 1) 0)) (ch_xw p (-1) (n + 1) 0)) (ch_xw p 0 (n + 1) 0)) (ch_xw p 1 (n + 1) 0)
  have i2 := ch_mxR (ch_mx (ch_mx (ch_mx 0 (ch_xw p (-2) (n + 1) 0)) (ch_xw p (-1) (n + 1) 0)) (ch_xw p 0 (n + 1) 0)) (ch_xw p 1 (n + 1) 0)
  have i3 := ch_mxL (ch_mx (ch_mx 0 (ch_xw p (-2) (n + 1) 0)) (ch_xw p (-1) (n + 1) 0)) (ch_xw p 0 (n + 1) 0)
  have i4 := ch_mxR (ch_mx (ch_mx 0 (ch_xw p (-2) (n + 1) 0)) (ch_xw p (-1) (n + 1) 0)) (ch_xw p 0 (n + 1) 0)
  have i5 := ch_mxL (ch_mx 0 (ch_xw p (-2) (n + 1) 0)) (ch_xw p (-1) (n + 1) 0)
  have i6 := ch_mxR (ch_mx 0 (ch_xw p (-2) (n + 1) 0)) (ch_xw p (-1) (n + 1) 0)
  have i7 := ch_mxL 0 (ch_xw p (-2) (n + 1) 0)
  have i8 := ch_mxR 0 (ch_xw p (-2) (n + 1) 0)
  have up : b ≤ ch_im p (n + 1) := by
    unfold ch_im
    rcases h.2.2 with q | ⟨x, hx, hxa, he⟩
    · omega
    · obtain ⟨k, h1, h2, hd⟩ := ch_admTo hxa
      have h3 := ch_lossLe p (n + 1) 0 x hd
      have h4 : k = -2 ∨ k = -1 ∨ k = 0 ∨ k = 1 := by omega
      rcases h4 with q | q | q | q <;> rw [q] at h3 <;> omega
  have lo : ch_im p (n + 1) ≤ b := by
    have b1 := a0 (-2) (by omega) (by omega)
    have b2 := a0 (-1) (by omega) (by omega)
    have b3 := a0 0 (by omega) (by omega)
    have b4 := a0 1 (by omega) (by omega)
    have b5 := h.1
    unfold ch_im
    rcases ch_mxE (ch_mx (ch_mx (ch_mx 0 (ch_xw p (-2) (n + 1) 0)) (ch_xw p (-1) (n + 1) 0)) (ch_xw p 0 (n + 1) 0)) (ch_xw p 1 (n + 1) 0) with q | q <;> rw [q]
    · rcases ch_mxE (ch_mx (ch_mx 0 (ch_xw p (-2) (n + 1) 0)) (ch_xw p (-1) (n + 1) 0)) (ch_xw p 0 (n + 1) 0) with q | q <;> rw [q]
      · rcases ch_mxE (ch_mx 0 (ch_xw p (-2) (n + 1) 0)) (ch_xw p (-1) (n + 1) 0) with q | q <;> rw [q]
        · rcases ch_mxE 0 (ch_xw p (-2) (n + 1) 0) with q | q <;> rw [q]
          · exact b5
          · exact b1
        · exact b2
      · exact b3
    · exact b4
  omega
theorem ch_ysB {p : Nat → Int} {B : Int} {e : Nat} (hB : 0 ≤ B) (h : ∀ i, i < e → -B ≤ p i ∧ p i ≤ B) : ∀ (n i x : Nat), i + n ≤ e → -(2 * B * n) ≤ ch_ys p n i x ∧ ch_ys p n i x ≤ 2 * B * n := by
  intro n
  induction n with
  | zero => intro i x _; show -(2 * B * ((0 : Nat) : Int)) ≤ 0 ∧ (0 : Int) ≤ 2 * B * ((0 : Nat) : Int); omega
  | succ n ih =>
    intro i x hi
    have a := ih (i + 1) (x / 5) (by omega)
    have d := ch_dgR x
    have b := ch_absmul (h i (by omega)).1 (h i (by omega)).2 d.1 d.2
    have c : 2 * B * ((n + 1 : Nat) : Int) = 2 * B * (n : Int) + B * 2 := by rw [Int.natCast_succ]; grind
    show -(2 * B * ((n + 1 : Nat) : Int)) ≤ p i * ch_dg x + ch_ys p n (i + 1) (x / 5) ∧ p i * ch_dg x + ch_ys p n (i + 1) (x / 5) ≤ 2 * B * ((n + 1 : Nat) : Int)
    rw [c]; omega
theorem ch_xwB {p : Nat → Int} {B l : Int} {e : Nat} (hB : 0 ≤ B) (hl : -2 ≤ l) (hl' : l ≤ 1) (h : ∀ i, i < e → -B ≤ p i ∧ p i ≤ B) : ∀ (n i : Nat), i + n ≤ e → -(2 * B * n) ≤ ch_xw p l n i ∧ ch_xw p l n i ≤ 2 * B * n := by
  intro n
  induction n with
  | zero => intro i _; show -(2 * B * ((0 : Nat) : Int)) ≤ 0 ∧ (0 : Int) ≤ 2 * B * ((0 : Nat) : Int); omega
  | succ n ih =>
    intro i hn
    have a := ih (i + 1) (by omega)
    have hi := h i (by omega)
    have b1 := ch_absmul (a := -(p i)) (b := l) (A := B) (B := 2) (by omega) (by omega) (by omega) (by omega)
    have b2 := ch_absmul (a := -(p i)) (b := l + 1) (A := B) (B := 2) (by omega) (by omega) (by omega) (by omega)
    have c : 2 * B * ((n + 1 : Nat) : Int) = 2 * B * (n : Int) + B * 2 := by rw [Int.natCast_succ]; grind
    show -(2 * B * ((n + 1 : Nat) : Int)) ≤ ch_mx (-(p i) * l) (-(p i) * (l + 1)) + ch_xw p l n (i + 1) ∧ ch_mx (-(p i) * l) (-(p i) * (l + 1)) + ch_xw p l n (i + 1) ≤ 2 * B * ((n + 1 : Nat) : Int)
    rw [c]
    rcases ch_mxE (-(p i) * l) (-(p i) * (l + 1)) with e | e <;> rw [e] <;> omega
end CHA
