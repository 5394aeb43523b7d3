section
/-! rows of kit/laws, pasted -/
theorem wb_tb (n : Nat) : (lN n).toBitVec = BitVec.ofNat 64 n := rfl
theorem wb_inj {a b : Int64} (h : a.toBitVec = b.toBitVec) : a = b := Int64.toBitVec_inj.mp h
theorem wb_tn {n : Nat} (h : n < 2 ^ 64) : (lN n).toBitVec.toNat = n := by rw [wb_tb, BitVec.toNat_ofNat, Nat.mod_eq_of_lt h]
theorem wb_of (x : Int64) : ∃ n, n < 2 ^ 64 ∧ x = lN n := ⟨x.toBitVec.toNat, x.toBitVec.isLt, wb_inj (by rw [wb_tb]; simp)⟩
theorem wb_of32 (x : Int32) : ∃ n, n < 2 ^ 32 ∧ x = nI n := ⟨x.toBitVec.toNat, x.toBitVec.isLt, Int32.toBitVec_inj.mp (by show _ = BitVec.ofNat 32 _; simp)⟩
theorem wb_c : ∀ k, k < 64 → ((nI k).toInt64 &&& 63) = lN k := by decide +kernel
theorem wb_cu : ∀ k, k < 64 → ((nI k).toInt64.toUInt64 &&& Int64.toUInt64 63) = UInt64.ofNat k := by decide +kernel
theorem wb_sm : ∀ k, k < 64 → (BitVec.ofNat 64 k).smod 64 = BitVec.ofNat 64 k := by decide +kernel
theorem wb_lt2 {a b : Nat} (h : a < b) : 2 ^ a < 2 ^ b := Nat.pow_lt_pow_right (by decide) h
theorem wb_and {a b : Nat} (ha : a < 2 ^ 64) (hb : b < 2 ^ 64) : lN a &&& lN b = lN (a &&& b) := by
  apply wb_inj
  rw [Int64.toBitVec_and, wb_tb, wb_tb, wb_tb]
  apply BitVec.eq_of_toNat_eq
  rw [BitVec.toNat_and, BitVec.toNat_ofNat, BitVec.toNat_ofNat, BitVec.toNat_ofNat, Nat.mod_eq_of_lt ha, Nat.mod_eq_of_lt hb, Nat.mod_eq_of_lt (Nat.and_lt_two_pow _ hb)]
theorem wb_mask {n k : Nat} (hn : n < 2 ^ 64) (hk : k < 64) : lN n &&& lN (2 ^ k - 1) = lN (n % 2 ^ k) := by
  rw [wb_and hn (by have := wb_lt2 hk; omega), Nat.and_two_pow_sub_one_eq_mod]
theorem wb_a1 {n : Nat} (hn : n < 2 ^ 64) : lN n &&& 1 = lN (n % 2) := wb_mask (k := 1) hn (by decide)
theorem pf_lI {a : Nat} (h : a < 2 ^ 63) : (lN a).toInt = (a : Int) := lg_ofNat_toInt h
theorem pf_shr {a d : Nat} {D : Int64} (hD : (D.toBitVec.smod 64).toNat = d) (h : a < 2 ^ 62) : lN a >>> D = lN (a / 2 ^ d) := by
  have hd : a / 2 ^ d ≤ a := Nat.div_le_self _ _
  apply Int64.toInt_inj.mp
  have e : (lN a >>> D).toInt = (lN a).toInt >>> d := by
    rw [← hD]
    exact BitVec.toInt_sshiftRight ..
  rw [e, Int.shiftRight_eq_div_pow, pf_lI (by omega), pf_lI (by omega)]
  rfl
end
section
section CHA
/-! A: longs and ints by integers -/
def ch_L (z : Int) : Int64 := Int64.ofInt z
def ch_I (z : Int) : Int32 := Int32.ofInt z
theorem ch_LT {z : Int} (h : -9223372036854775808 ≤ z) (h' : z < 9223372036854775808) : (ch_L z).toInt = z := Int64.toInt_ofInt_of_le h h'
theorem ch_IT {z : Int} (h : -2147483648 ≤ z) (h' : z < 2147483648) : (ch_I z).toInt = z := Int32.toInt_ofInt_of_le h h'
theorem ch_Lof (x : Int64) : ch_L x.toInt = x := Int64.ofInt_toInt x
theorem ch_Iof (x : Int32) : ch_I x.toInt = x := Int32.ofInt_toInt x
theorem ch_Ladd (a b : Int) : ch_L a + ch_L b = ch_L (a + b) := (Int64.ofInt_add a b).symm
theorem ch_Lsub (a b : Int) : ch_L a - ch_L b = ch_L (a - b) := (Int64.ofInt_sub a b).symm
theorem ch_Lmul (a b : Int) : ch_L a * ch_L b = ch_L (a * b) := (Int64.ofInt_mul a b).symm
theorem ch_Lneg (a : Int) : -ch_L a = ch_L (-a) := (Int64.ofInt_neg a).symm
theorem ch_Iadd (a b : Int) : ch_I a + ch_I b = ch_I (a + b) := (Int32.ofInt_add a b).symm
theorem ch_Isub (a b : Int) : ch_I a - ch_I b = ch_I (a - b) := (Int32.ofInt_sub a b).symm
theorem ch_Imul (a b : Int) : ch_I a * ch_I b = ch_I (a * b) := (Int32.ofInt_mul a b).symm
theorem ch_Ineg (a : Int) : -ch_I a = ch_I (-a) := (Int32.ofInt_neg a).symm
theorem ch_Li (x : Int32) : x.toInt64 = ch_L x.toInt := rfl
theorem ch_LI {z : Int} (h : -2147483648 ≤ z) (h' : z < 2147483648) : (ch_I z).toInt64 = ch_L z := by
  rw [ch_Li, ch_IT h h']
theorem ch_IL (z : Int) : (ch_L z).toInt32 = ch_I z := Int64.toInt32_ofInt
theorem ch_Ln (n : Nat) : lN n = ch_L n := Int64.ofInt_eq_ofNat.symm
theorem ch_In (n : Nat) : nI n = ch_I n := Int32.ofInt_eq_ofNat.symm
theorem ch_Llt {a b : Int} (ha : -9223372036854775808 ≤ a) (ha' : a < 9223372036854775808) (hb : -9223372036854775808 ≤ b) (hb' : b < 9223372036854775808) : ch_L a < ch_L b ↔ a < b := by
  rw [Int64.lt_iff_toInt_lt, ch_LT ha ha', ch_LT hb hb']
theorem ch_Lle {a b : Int} (ha : -9223372036854775808 ≤ a) (ha' : a < 9223372036854775808) (hb : -9223372036854775808 ≤ b) (hb' : b < 9223372036854775808) : ch_L a ≤ ch_L b ↔ a ≤ b := by
  rw [Int64.le_iff_toInt_le, ch_LT ha ha', ch_LT hb hb']
theorem ch_Ilt {a b : Int} (ha : -2147483648 ≤ a) (ha' : a < 2147483648) (hb : -2147483648 ≤ b) (hb' : b < 2147483648) : ch_I a < ch_I b ↔ a < b := by
  rw [Int32.lt_iff_toInt_lt, ch_IT ha ha', ch_IT hb hb']
theorem ch_Ile {a b : Int} (ha : -2147483648 ≤ a) (ha' : a < 2147483648) (hb : -2147483648 ≤ b) (hb' : b < 2147483648) : ch_I a ≤ ch_I b ↔ a ≤ b := by
  rw [Int32.le_iff_toInt_le, ch_IT ha ha', ch_IT hb hb']
theorem ch_addL {x y : Int64} (h : -9223372036854775808 ≤ x.toInt + y.toInt) (h' : x.toInt + y.toInt < 9223372036854775808) : (x + y).toInt = x.toInt + y.toInt := by
  rw [Int64.toInt_add, Int.bmod_eq_of_le (by omega) (by omega)]
theorem ch_subL {x y : Int64} (h : -9223372036854775808 ≤ x.toInt - y.toInt) (h' : x.toInt - y.toInt < 9223372036854775808) : (x - y).toInt = x.toInt - y.toInt := by
  rw [Int64.toInt_sub, Int.bmod_eq_of_le (by omega) (by omega)]
theorem ch_negL {x : Int64} (h : -9223372036854775808 < x.toInt) : (-x).toInt = -x.toInt := by
  have := x.toInt_lt
  rw [Int64.toInt_neg, Int.bmod_eq_of_le (by omega) (by omega)]
theorem ch_mulL {x y : Int64} (h : -9223372036854775808 ≤ x.toInt * y.toInt) (h' : x.toInt * y.toInt < 9223372036854775808) : (x * y).toInt = x.toInt * y.toInt := by
  rw [Int64.toInt_mul, Int.bmod_eq_of_le (by omega) (by omega)]
theorem ch_addI {x y : Int32} (h : -2147483648 ≤ x.toInt + y.toInt) (h' : x.toInt + y.toInt < 2147483648) : (x + y).toInt = x.toInt + y.toInt := by
  rw [Int32.toInt_add, Int.bmod_eq_of_le (by omega) (by omega)]
theorem ch_subI {x y : Int32} (h : -2147483648 ≤ x.toInt - y.toInt) (h' : x.toInt - y.toInt < 2147483648) : (x - y).toInt = x.toInt - y.toInt := by
  rw [Int32.toInt_sub, Int.bmod_eq_of_le (by omega) (by omega)]
theorem ch_mulI {x y : Int32} (h : -2147483648 ≤ x.toInt * y.toInt) (h' : x.toInt * y.toInt < 2147483648) : (x * y).toInt = x.toInt * y.toInt := by
  rw [Int32.toInt_mul, Int.bmod_eq_of_le (by omega) (by omega)]
theorem ch_absmul {a b A B : Int} (ha : -A ≤ a) (ha' : a ≤ A) (hb : -B ≤ b) (hb' : b ≤ B) : -(A * B) ≤ a * b ∧ a * b ≤ A * B := by
  have hA : 0 ≤ A := by omega
  have hB : 0 ≤ B := by omega
  have h1 := Int.mul_nonneg (show 0 ≤ A - a by omega) (show 0 ≤ B - b by omega)
  have h2 := Int.mul_nonneg (show 0 ≤ A - a by omega) (show 0 ≤ B + b by omega)
  have h3 := Int.mul_nonneg (show 0 ≤ A + a by omega) (show 0 ≤ B - b by omega)
  have h4 := Int.mul_nonneg (show 0 ≤ A + a by omega) (show 0 ≤ B + b by omega)
  constructor <;> grind
theorem ch_us {f : Nat → Int32} {k : Nat} {x : Int32} : upd f k x k = x := if_pos rfl
theorem ch_un {f : Nat → Int32} {k j : Nat} {x : Int32} (h : j ≠ k) : upd f k x j = f j := if_neg h
theorem ch_uLs {f : Nat → Int64} {k : Nat} {x : Int64} : vp_updL f k x k = x := if_pos rfl
theorem ch_uLn {f : Nat → Int64} {k j : Nat} {x : Int64} (h : j ≠ k) : vp_updL f k x j = f j := if_neg h
theorem ch_uId {f : Nat → Int32} {k : Nat} {x : Int32} (h : f k = x) : upd f k x = f := by
  funext j; unfold upd; split
  · next e => rw [e, h]
  · rfl
theorem ch_uLId {f : Nat → Int64} {k : Nat} {x : Int64} (h : f k = x) : vp_updL f k x = f := by
  funext j; unfold vp_updL; split
  · next e => rw [e, h]
  · rfl
theorem ch_uAll {f : Nat → Int32} {P : Int32 → Prop} {k : Nat} {x : Int32} (h : ∀ j, P (f j)) (hx : P x) : ∀ j, P (upd f k x j) := by
  intro j; unfold upd; split
  · exact hx
  · exact h j
theorem ch_uLAll {f : Nat → Int64} {P : Int64 → Prop} {k : Nat} {x : Int64} (h : ∀ j, P (f j)) (hx : P x) : ∀ j, P (vp_updL f k x j) := by
  intro j; unfold vp_updL; split
  · exact hx
  · exact h j
theorem ch_uuL {f : Nat → Int64} {k : Nat} {x y : Int64} : vp_updL (vp_updL f k x) k y = vp_updL f k y := by
  funext j; unfold vp_updL; split <;> rfl
theorem ch_uu {f : Nat → Int32} {k : Nat} {x y : Int32} : upd (upd f k x) k y = upd f k y := by
  funext j; unfold upd; split <;> rfl
/-! B: the greatest loss: pairs of scenarios against codes -/
def ch_mx (a b : Int) : Int := if b < a then a else b
theorem ch_mxL (a b : Int) : a ≤ ch_mx a b := by unfold ch_mx; split <;> omega
theorem ch_mxR (a b : Int) : b ≤ ch_mx a b := by unfold ch_mx; split <;> omega
theorem ch_mxE (a b : Int) : ch_mx a b = a ∨ ch_mx a b = b := by unfold ch_mx; split <;> simp
def ch_dg (x : Nat) : Int := ((x % 5 : Nat) : Int) - 2
theorem ch_dgR (x : Nat) : -2 ≤ ch_dg x ∧ ch_dg x ≤ 2 := by unfold ch_dg; omega
def ch_ys (p : Nat → Int) : Nat → Nat → Nat → Int
  | 0, _, _ => 0
  | n + 1, i, x => p i * ch_dg x + ch_ys p n (i + 1) (x / 5)
def ch_yd (a b : Int) : Nat → Nat → Prop
  | 0, _ => True
  | n + 1, x => (a ≤ ch_dg x ∧ ch_dg x ≤ b) ∧ ch_yd a b n (x / 5)
def ch_xw (p : Nat → Int) (l : Int) : Nat → Nat → Int
  | 0, _ => 0
  | n + 1, i => ch_mx (-(p i) * l) (-(p i) * (l + 1)) + ch_xw p l n (i + 1)
def ch_yh : Nat → Nat → Int → Int
  | 0, _, h => h
  | n + 1, x, h => ch_yh n (x / 5) (if h < ch_dg x then ch_dg x else h)
def ch_yl : Nat → Nat → Int → Int
  | 0, _, l => l
  | n + 1, x, l => ch_yl n (x / 5) (if ch_dg x < l then ch_dg x else l)
theorem ch_yhGe : ∀ (n x : Nat) (h : Int), h ≤ ch_yh n x h := by
  intro n
  induction n with
  | zero => intro x h; exact Int.le_refl _
  | succ n ih =>
    intro x h
    have := ih (x / 5) (if h < ch_dg x then ch_dg x else h)
    show h ≤ ch_yh n (x / 5) (if h < ch_dg x then ch_dg x else h)
    split at this <;> split <;> omega
theorem ch_yhGeD (n x : Nat) (h : Int) : ch_dg x ≤ ch_yh (n + 1) x h := by
  have := ch_yhGe n (x / 5) (if h < ch_dg x then ch_dg x else h)
  show ch_dg x ≤ ch_yh n (x / 5) (if h < ch_dg x then ch_dg x else h)
  split at this <;> split <;> omega
theorem ch_ylLe : ∀ (n x : Nat) (l : Int), ch_yl n x l ≤ l := by
  intro n
  induction n with
  | zero => intro x h; exact Int.le_refl _
  | succ n ih =>
    intro x l
    have := ih (x / 5) (if ch_dg x < l then ch_dg x else l)
    show ch_yl n (x / 5) (if ch_dg x < l then ch_dg x else l) ≤ l
    split at this <;> split <;> omega
theorem ch_ylLeD (n x : Nat) (l : Int) : ch_yl (n + 1) x l ≤ ch_dg x := by
  have := ch_ylLe n (x / 5) (if ch_dg x < l then ch_dg x else l)
  show ch_yl n (x / 5) (if ch_dg x < l then ch_dg x else l) ≤ ch_dg x
  split at this <;> split <;> omega
theorem ch_yhLe {a b : Int} : ∀ (n x : Nat) (h : Int), ch_yd a b n x → h ≤ b → ch_yh n x h ≤ b := by
  intro n
  induction n with
  | zero => intro x h _ hb; exact hb
  | succ n ih =>
    intro x h hd hb
    exact ih (x / 5) _ hd.2 (by have := hd.1; split <;> omega)
theorem ch_ylGe {a b : Int} : ∀ (n x : Nat) (l : Int), ch_yd a b n x → a ≤ l → a ≤ ch_yl n x l := by
  intro n
  induction n with
  | zero => intro x h _ hb; exact hb
  | succ n ih =>
    intro x h hd hb
    exact ih (x / 5) _ hd.2 (by have := hd.1; split <;> omega)
theorem ch_ydR : ∀ (n x : Nat), ch_yd (-2) 2 n x := by
  intro n
  induction n with
  | zero => intro x; trivial
  | succ n ih => intro x; exact ⟨ch_dgR x, ih _⟩
theorem ch_ydM {a b a' b' : Int} (ha : a' ≤ a) (hb : b ≤ b' ∨ 2 ≤ b') : ∀ (n x : Nat), ch_yd a b n x → ch_yd a' b' n x := by
  intro n
  induction n with
  | zero => intro x _; trivial
  | succ n ih =>
    intro x h
    have := ch_dgR x
    have := h.1
    exact ⟨⟨by omega, by omega⟩, ih _ h.2⟩
theorem ch_ydHL : ∀ (n x : Nat) (h l : Int), ch_yd (ch_yl n x l) (ch_yh n x h) n x := by
  intro n
  induction n with
  | zero => intro x h l; trivial
  | succ n ih =>
    intro x h l
    exact ⟨⟨ch_ylLeD n x l, ch_yhGeD n x h⟩, ih (x / 5) _ _⟩
def ch_adm (n x : Nat) : Prop := ch_yh n x (-3) - ch_yl n x 3 ≤ 1
theorem ch_admOf {k : Int} (h1 : -2 ≤ k) (h2 : k ≤ 1) {n x : Nat} (h : ch_yd k (k + 1) n x) : ch_adm n x := by
  have a := ch_yhLe n x (-3) h (by omega)
  have b := ch_ylGe n x 3 h (by omega)
  unfold ch_adm; omega
theorem ch_admTo {n x : Nat} (h : ch_adm (n + 1) x) : ∃ k : Int, -2 ≤ k ∧ k ≤ 1 ∧ ch_yd k (k + 1) (n + 1) x := by
  have a := ch_ylLeD n x 3
  have b := ch_dgR x
  have c := ch_ylGe (n + 1) x 3 (ch_ydR (n + 1) x) (by omega)
  have d := ch_ydHL (n + 1) x (-3) 3
  unfold ch_adm at h
  by_cases e : ch_yl (n + 1) x 3 ≤ 1
  · exact ⟨ch_yl (n + 1) x 3, c, e, ch_ydM (Int.le_refl _) (Or.inl (by omega)) _ _ d⟩
  · exact ⟨1, by omega, by omega, ch_ydM (by omega) (Or.inr (by omega)) _ _ d⟩
theorem ch_lossLe (p : Nat → Int) {k : Int} : ∀ (n i x : Nat), ch_yd k (k + 1) n x → -ch_ys p n i x ≤ ch_xw p k n i := by
  intro n
  induction n with
  | zero => intro i x _; exact Int.le_refl _
  | succ n ih =>
    intro i x h
    have h1 := ih (i + 1) (x / 5) h.2
    have h2 := ch_mxL (-(p i) * k) (-(p i) * (k + 1))
    have h3 := ch_mxR (-(p i) * k) (-(p i) * (k + 1))
    show -(p i * ch_dg x + ch_ys p n (i + 1) (x / 5)) ≤ ch_mx (-(p i) * k) (-(p i) * (k + 1)) + ch_xw p k n (i + 1)
    have h4 : ch_dg x = k ∨ ch_dg x = k + 1 := by have := h.1; omega
    rcases h4 with e | e <;> rw [e]
    · have : -(p i) * k = -(p i * k) := Int.neg_mul _ _
      omega
    · have : -(p i) * (k + 1) = -(p i * (k + 1)) := Int.neg_mul _ _
      omega
theorem ch_lossEx (p : Nat → Int) {k : Int} (h1 : -2 ≤ k) (h2 : k ≤ 1) : ∀ (n i : Nat), ∃ x : Nat, x < 5 ^ n ∧ ch_yd k (k + 1) n x ∧ -ch_ys p n i x = ch_xw p k n i := by
  intro n
  induction n with
  | zero => intro i; exact ⟨0, by decide, trivial, rfl⟩
  | succ n ih =>
    intro i
    obtain ⟨x, hx, hd, he⟩ := ih (i + 1)
    have key : ∀ c : Int, c = k ∨ c = k + 1 → -(p i) * c = ch_mx (-(p i) * k) (-(p i) * (k + 1)) → ∃ x : Nat, x < 5 ^ (n + 1) ∧ ch_yd k (k + 1) (n + 1) x ∧ -ch_ys p (n + 1) i x = ch_xw p k (n + 1) i := by
      intro c hc hm
      obtain ⟨d, hd5, hdc⟩ : ∃ d : Nat, d < 5 ∧ (d : Int) = c + 2 := ⟨(c + 2).toNat, by omega, by omega⟩
      have e1 : (5 * x + d) / 5 = x := by omega
      have e2 : ch_dg (5 * x + d) = c := by
        have : (5 * x + d) % 5 = d := by omega
        unfold ch_dg; rw [this]; omega
      refine ⟨5 * x + d, by rw [Nat.pow_succ]; omega, ?_, ?_⟩
      · show (k ≤ ch_dg (5 * x + d) ∧ ch_dg (5 * x + d) ≤ k + 1) ∧ ch_yd k (k + 1) n ((5 * x + d) / 5)
        rw [e1, e2]; exact ⟨⟨by omega, by omega⟩, hd⟩
      · show -(p i * ch_dg (5 * x + d) + ch_ys p n (i + 1) ((5 * x + d) / 5)) = ch_mx (-(p i) * k) (-(p i) * (k + 1)) + ch_xw p k n (i + 1)
        rw [e1, e2, ← hm, ← he, Int.neg_mul]; omega
    rcases ch_mxE (-(p i) * k) (-(p i) * (k + 1)) with e | e
    · exact key k (Or.inl rfl) e.symm
    · exact key (k + 1) (Or.inr rfl) e.symm
def ch_im (p : Nat → Int) (n : Nat) : Int := ch_mx (ch_mx (ch_mx (ch_mx 0 (ch_xw p (-2) n 0)) (ch_xw p (-1) n 0)) (ch_xw p 0 n 0)) (ch_xw p 1 n 0)
/-- what is known of the greatest loss over the codes below e -/
def ch_best (p : Nat → Int) (n e : Nat) (b : Int) : Prop := 0 ≤ b ∧ (∀ x, x < e → ch_adm n x → -ch_ys p n 0 x ≤ b) ∧ (b = 0 ∨ ∃ x, x < e ∧ ch_adm n x ∧ b = -ch_ys p n 0 x)
theorem ch_best0 (p : Nat → Int) (n : Nat) : ch_best p n 0 0 := ⟨Int.le_refl _, fun x h => absurd h (Nat.not_lt_zero _), Or.inl rfl⟩
theorem ch_bestY {p : Nat → Int} {n e : Nat} {b : Int} (h : ch_best p n e b) (ha : ch_adm n e) (hb : b < -ch_ys p n 0 e) : ch_best p n (e + 1) (-ch_ys p n 0 e) := by
  refine ⟨by have := h.1; omega, fun x hx hxa => ?_, Or.inr ⟨e, Nat.lt_succ_self e, ha, rfl⟩⟩
  by_cases q : x = e
  · rw [q]; exact Int.le_refl _
  · have := h.2.1 x (by omega) hxa; omega
theorem ch_bestN {p : Nat → Int} {n e : Nat} {b : Int} (h : ch_best p n e b) (hb : ch_adm n e → ¬ b < -ch_ys p n 0 e) : ch_best p n (e + 1) b := by
  refine ⟨h.1, fun x hx hxa => ?_, ?_⟩
  · by_cases q : x = e
    · have := hb (q ▸ hxa); rw [q]; omega
    · exact h.2.1 x (by omega) hxa
  · rcases h.2.2 with q | ⟨x, hx, hxa, he⟩
    · exact Or.inl q
    · exact Or.inr ⟨x, by omega, hxa, he⟩
theorem ch_bestU {p : Nat → Int} {n : Nat} {b : Int} (h : ch_best p (n + 1) (5 ^ (n + 1)) b) : b = ch_im p (n + 1) := by
  have a0 : ∀ k : Int, -2 ≤ k → k ≤ 1 → ch_xw p k (n + 1) 0 ≤ b := by
    intro k h1 h2
    obtain ⟨x, hx, hd, he⟩ := ch_lossEx p h1 h2 (n + 1) 0
    rw [← he]
    exact h.2.1 x hx (ch_admOf h1 h2 hd)
  have i1 := ch_mxL (ch_mx (ch_mx (ch_mx 0 (ch_xw p (-2) (n + 1) 0)) (ch_xw p (-1) (n + 1) 0)) (ch_xw p 0 (n + 1) 0)) (ch_xw p 1 (n + 1) 0)
  have i2 := ch_mxR (ch_mx (ch_mx (ch_mx 0 (ch_xw p (-2) (n + 1) 0)) (ch_xw p (-1) (n + 1) 0)) (ch_xw p 0 (n + 1) 0)) (ch_xw p 1 (n + 1) 0)
  have i3 := ch_mxL (ch_mx (ch_mx 0 (ch_xw p (-2) (n + 1) 0)) (ch_xw p (-1) (n + 1) 0)) (ch_xw p 0 (n + 1) 0)
  have i4 := ch_mxR (ch_mx (ch_mx 0 (ch_xw p (-2) (n + 1) 0)) (ch_xw p (-1) (n + 1) 0)) (ch_xw p 0 (n + 1) 0)
  have i5 := ch_mxL (ch_mx 0 (ch_xw p (-2) (n + 1) 0)) (ch_xw p (-1) (n + 1) 0)
  have i6 := ch_mxR (ch_mx 0 (ch_xw p (-2) (n + 1) 0)) (ch_xw p (-1) (n + 1) 0)
  have i7 := ch_mxL 0 (ch_xw p (-2) (n + 1) 0)
  have i8 := ch_mxR 0 (ch_xw p (-2) (n + 1) 0)
  have up : b ≤ ch_im p (n + 1) := by
    unfold ch_im
    rcases h.2.2 with q | ⟨x, hx, hxa, he⟩
    · omega
    · obtain ⟨k, h1, h2, hd⟩ := ch_admTo hxa
      have h3 := ch_lossLe p (n + 1) 0 x hd
      have h4 : k = -2 ∨ k = -1 ∨ k = 0 ∨ k = 1 := by omega
      rcases h4 with q | q | q | q <;> rw [q] at h3 <;> omega
  have lo : ch_im p (n + 1) ≤ b := by
    have b1 := a0 (-2) (by omega) (by omega)
    have b2 := a0 (-1) (by omega) (by omega)
    have b3 := a0 0 (by omega) (by omega)
    have b4 := a0 1 (by omega) (by omega)
    have b5 := h.1
    unfold ch_im
    rcases ch_mxE (ch_mx (ch_mx (ch_mx 0 (ch_xw p (-2) (n + 1) 0)) (ch_xw p (-1) (n + 1) 0)) (ch_xw p 0 (n + 1) 0)) (ch_xw p 1 (n + 1) 0) with q | q <;> rw [q]
    · rcases ch_mxE (ch_mx (ch_mx 0 (ch_xw p (-2) (n + 1) 0)) (ch_xw p (-1) (n + 1) 0)) (ch_xw p 0 (n + 1) 0) with q | q <;> rw [q]
      · rcases ch_mxE (ch_mx 0 (ch_xw p (-2) (n + 1) 0)) (ch_xw p (-1) (n + 1) 0) with q | q <;> rw [q]
        · rcases ch_mxE 0 (ch_xw p (-2) (n + 1) 0) with q | q <;> rw [q]
          · exact b5
          · exact b1
        · exact b2
      · exact b3
    · exact b4
  omega
theorem ch_ysB {p : Nat → Int} {B : Int} {e : Nat} (hB : 0 ≤ B) (h : ∀ i, i < e → -B ≤ p i ∧ p i ≤ B) : ∀ (n i x : Nat), i + n ≤ e → -(2 * B * n) ≤ ch_ys p n i x ∧ ch_ys p n i x ≤ 2 * B * n := by
  intro n
  induction n with
  | zero => intro i x _; show -(2 * B * ((0 : Nat) : Int)) ≤ 0 ∧ (0 : Int) ≤ 2 * B * ((0 : Nat) : Int); omega
  | succ n ih =>
    intro i x hi
    have a := ih (i + 1) (x / 5) (by omega)
    have d := ch_dgR x
    have b := ch_absmul (h i (by omega)).1 (h i (by omega)).2 d.1 d.2
    have c : 2 * B * ((n + 1 : Nat) : Int) = 2 * B * (n : Int) + B * 2 := by rw [Int.natCast_succ]; grind
    show -(2 * B * ((n + 1 : Nat) : Int)) ≤ p i * ch_dg x + ch_ys p n (i + 1) (x / 5) ∧ p i * ch_dg x + ch_ys p n (i + 1) (x / 5) ≤ 2 * B * ((n + 1 : Nat) : Int)
    rw [c]; omega
theorem ch_xwB {p : Nat → Int} {B l : Int} {e : Nat} (hB : 0 ≤ B) (hl : -2 ≤ l) (hl' : l ≤ 1) (h : ∀ i, i < e → -B ≤ p i ∧ p i ≤ B) : ∀ (n i : Nat), i + n ≤ e → -(2 * B * n) ≤ ch_xw p l n i ∧ ch_xw p l n i ≤ 2 * B * n := by
  intro n
  induction n with
  | zero => intro i _; show -(2 * B * ((0 : Nat) : Int)) ≤ 0 ∧ (0 : Int) ≤ 2 * B * ((0 : Nat) : Int); omega
  | succ n ih =>
    intro i hn
    have a := ih (i + 1) (by omega)
    have hi := h i (by omega)
    have b1 := ch_absmul (a := -(p i)) (b := l) (A := B) (B := 2) (by omega) (by omega) (by omega) (by omega)
    have b2 := ch_absmul (a := -(p i)) (b := l + 1) (A := B) (B := 2) (by omega) (by omega) (by omega) (by omega)
    have c : 2 * B * ((n + 1 : Nat) : Int) = 2 * B * (n : Int) + B * 2 := by rw [Int.natCast_succ]; grind
    show -(2 * B * ((n + 1 : Nat) : Int)) ≤ ch_mx (-(p i) * l) (-(p i) * (l + 1)) + ch_xw p l n (i + 1) ∧ ch_mx (-(p i) * l) (-(p i) * (l + 1)) + ch_xw p l n (i + 1) ≤ 2 * B * ((n + 1 : Nat) : Int)
    rw [c]
    rcases ch_mxE (-(p i) * l) (-(p i) * (l + 1)) with e | e <;> rw [e] <;> omega
end CHA
end
section
section CHB
/-! C: the sum of the survivors' funds, the split -/
def ch_fs (st : Nat → Int32) (f : Nat → Nat) : Nat → Nat
  | 0 => 0
  | n + 1 => ch_fs st f n + (if st n = 0 then f n else 0)
theorem ch_fsMono (st : Nat → Int32) (f : Nat → Nat) : ∀ {n m : Nat}, n ≤ m → ch_fs st f n ≤ ch_fs st f m := by
  intro n m h
  induction m with
  | zero => have : n = 0 := by omega
            rw [this]; exact Nat.le_refl _
  | succ m ih =>
    by_cases q : n = m + 1
    · rw [q]; exact Nat.le_refl _
    · exact Nat.le_trans (ih (by omega)) (Nat.le_add_right _ _)
theorem ch_fsGe {st : Nat → Int32} {f : Nat → Nat} {j n : Nat} (hj : j < n) (h : st j = 0) : f j ≤ ch_fs st f n := by
  refine Nat.le_trans ?_ (ch_fsMono st f (show j + 1 ≤ n by omega))
  show f j ≤ ch_fs st f j + (if st j = 0 then f j else 0)
  rw [if_pos h]; omega
theorem ch_fsB {st : Nat → Int32} {f : Nat → Nat} {B : Nat} (h : ∀ j, f j ≤ B) : ∀ n, ch_fs st f n ≤ n * B := by
  intro n
  induction n with
  | zero => show 0 ≤ _; omega
  | succ n ih =>
    show ch_fs st f n + (if st n = 0 then f n else 0) ≤ (n + 1) * B
    have := h n
    rw [Nat.succ_mul]
    split <;> omega
/-- the first parts -/
def ch_g0 (st : Nat → Int32) (f : Nat → Nat) (A F : Nat) (j : Nat) : Nat := if st j = 0 then A * f j / F else 0
/-- their sum -/
def ch_gs (st : Nat → Int32) (f : Nat → Nat) (A F : Nat) : Nat → Nat
  | 0 => 0
  | n + 1 => ch_gs st f A F n + ch_g0 st f A F n
/-- how many below n may get one more -/
def ch_el (st : Nat → Int32) (f : Nat → Nat) : Nat → Nat
  | 0 => 0
  | n + 1 => ch_el st f n + (if st n = 0 ∧ 0 < f n then 1 else 0)
/-- the parts -/
def ch_g (st : Nat → Int32) (f : Nat → Nat) (A F M : Nat) (j : Nat) : Nat :=
  ch_g0 st f A F j + (if (st j = 0 ∧ 0 < f j) ∧ ch_el st f j + ch_gs st f A F M < A then 1 else 0)
theorem ch_elMono (st : Nat → Int32) (f : Nat → Nat) : ∀ {n m : Nat}, n ≤ m → ch_el st f n ≤ ch_el st f m := by
  intro n m h
  induction m with
  | zero => have : n = 0 := by omega
            rw [this]; exact Nat.le_refl _
  | succ m ih =>
    by_cases q : n = m + 1
    · rw [q]; exact Nat.le_refl _
    · exact Nat.le_trans (ih (by omega)) (Nat.le_add_right _ _)
theorem ch_gsMono (st : Nat → Int32) (f : Nat → Nat) (A F : Nat) : ∀ {n m : Nat}, n ≤ m → ch_gs st f A F n ≤ ch_gs st f A F m := by
  intro n m h
  induction m with
  | zero => have : n = 0 := by omega
            rw [this]; exact Nat.le_refl _
  | succ m ih =>
    by_cases q : n = m + 1
    · rw [q]; exact Nat.le_refl _
    · exact Nat.le_trans (ih (by omega)) (Nat.le_add_right _ _)
theorem ch_gsGe {st : Nat → Int32} {f : Nat → Nat} {A F j n : Nat} (hj : j < n) : ch_g0 st f A F j ≤ ch_gs st f A F n := by
  refine Nat.le_trans ?_ (ch_gsMono st f A F (show j + 1 ≤ n by omega))
  show _ ≤ ch_gs st f A F j + ch_g0 st f A F j
  omega
theorem ch_elB (st : Nat → Int32) (f : Nat → Nat) : ∀ n, ch_el st f n ≤ n := by
  intro n
  induction n with
  | zero => exact Nat.le_refl _
  | succ n ih =>
    show ch_el st f n + (if st n = 0 ∧ 0 < f n then 1 else 0) ≤ n + 1
    split <;> omega
theorem ch_g0A {st : Nat → Int32} {f : Nat → Nat} {A F j : Nat} (h : st j = 0 → f j ≤ F) : ch_g0 st f A F j ≤ A := by
  unfold ch_g0
  split
  · next e => exact Nat.le_trans (Nat.div_le_div_right (Nat.mul_le_mul_left A (h e))) (by
      rcases Nat.eq_zero_or_pos F with q | q
      · rw [q]; simp
      · rw [Nat.mul_div_cancel _ q]; exact Nat.le_refl _)
  · omega
theorem ch_gsB {st : Nat → Int32} {f : Nat → Nat} {A F : Nat} (h : ∀ j, ch_g0 st f A F j ≤ A) : ∀ n, ch_gs st f A F n ≤ n * A := by
  intro n
  induction n with
  | zero => show 0 ≤ _; omega
  | succ n ih =>
    show ch_gs st f A F n + ch_g0 st f A F n ≤ (n + 1) * A
    have := h n
    rw [Nat.succ_mul]; omega
theorem ch_gN {st : Nat → Int32} {f : Nat → Nat} {A F M j : Nat} (h : ¬ st j = 0) : ch_g st f A F M j = 0 := by
  unfold ch_g ch_g0
  rw [if_neg h, if_neg (fun q => h q.1.1)]
theorem ch_gA {st : Nat → Int32} {f : Nat → Nat} {A F M j : Nat} (hj : j < M) (h : st j = 0 → f j ≤ F) : ch_g st f A F M j ≤ A := by
  have a := ch_g0A (A := A) h
  have b := ch_gsGe (st := st) (f := f) (A := A) (F := F) hj
  unfold ch_g
  split <;> omega
theorem ch_gF {st : Nat → Int32} {f : Nat → Nat} {A F M j : Nat} (hA : A < F) : ch_g st f A F M j ≤ f j := by
  unfold ch_g ch_g0
  by_cases h : st j = 0
  · rw [if_pos h]
    by_cases q : 0 < f j
    · have : A * f j / F < f j := by
        rw [Nat.div_lt_iff_lt_mul (by omega), Nat.mul_comm (f j) F]
        exact Nat.mul_lt_mul_of_pos_right hA q
      split <;> omega
    · have e : f j = 0 := by omega
      rw [if_neg (fun z => q z.1.2), e]; simp
  · rw [if_neg h, if_neg (fun q => h q.1.1)]; omega
/-- the bits of A, from above: one turn -/
theorem ch_shStep {F f q r a β : Nat} (hf : f ≤ F) (h : q * F + r = a * f) (hr : r < F) (hβ : β = 0 ∨ β = 1) :
    ∀ q1 r1 q2 r2 : Nat, (F ≤ 2 * r → q1 = 2 * q + 1 ∧ r1 = 2 * r - F) → (¬ F ≤ 2 * r → q1 = 2 * q ∧ r1 = 2 * r) →
    (β = 0 → q2 = q1 ∧ r2 = r1) → (β = 1 → F ≤ r1 + f → q2 = q1 + 1 ∧ r2 = r1 + f - F) → (β = 1 → ¬ F ≤ r1 + f → q2 = q1 ∧ r2 = r1 + f) →
    q2 * F + r2 = (2 * a + β) * f ∧ r2 < F := by
  intro q1 r1 q2 r2 h1 h2 h3 h4 h5
  have e1 : q1 * F + r1 = 2 * a * f ∧ r1 < F := by
    have e0 : 2 * a * f = 2 * (q * F) + 2 * r := by rw [Nat.mul_assoc, ← h]; omega
    by_cases c : F ≤ 2 * r
    · obtain ⟨x, y⟩ := h1 c
      rw [e0, x, y, Nat.add_mul, Nat.mul_assoc, Nat.one_mul]; omega
    · obtain ⟨x, y⟩ := h2 c
      rw [e0, x, y, Nat.mul_assoc]; omega
  rcases hβ with b | b
  · obtain ⟨x, y⟩ := h3 b
    rw [x, y, b]; exact e1
  · have e2 : (2 * a + β) * f = 2 * a * f + f := by rw [b, Nat.add_mul, Nat.one_mul]
    rw [e2, ← e1.1]
    by_cases c : F ≤ r1 + f
    · obtain ⟨x, y⟩ := h4 b c
      rw [x, y, Nat.add_mul, Nat.one_mul]; omega
    · obtain ⟨x, y⟩ := h5 b c
      rw [x, y]; omega
theorem ch_shEnd {F f q r A : Nat} (h : q * F + r = A * f) (hr : r < F) : q = A * f / F := by
  rw [← h, Nat.add_comm, Nat.add_mul_div_right _ _ (by omega), Nat.div_eq_of_lt hr, Nat.zero_add]
theorem ch_shQ {F f q r a : Nat} (hf : f ≤ F) (hF : 0 < F) (h : q * F + r = a * f) : q ≤ a := by
  have : q * F ≤ a * F := Nat.le_trans (by omega) (Nat.mul_le_mul_left a hf)
  exact Nat.le_of_mul_le_mul_right this hF
/-- statuses: how many below n are in default -/
def ch_cd (st : Nat → Int32) : Nat → Nat
  | 0 => 0
  | n + 1 => ch_cd st n + (if st n = 2 then 1 else 0)
theorem ch_cdB (st : Nat → Int32) : ∀ n, ch_cd st n ≤ n := by
  intro n
  induction n with
  | zero => exact Nat.le_refl _
  | succ n ih =>
    show ch_cd st n + (if st n = 2 then 1 else 0) ≤ n + 1
    split <;> omega
theorem ch_cdU {st : Nat → Int32} {d : Nat} {x : Int32} : ∀ n, n ≤ d → ch_cd (upd st d x) n = ch_cd st n := by
  intro n
  induction n with
  | zero => intro _; rfl
  | succ n ih =>
    intro h
    show ch_cd (upd st d x) n + (if upd st d x n = 2 then 1 else 0) = ch_cd st n + (if st n = 2 then 1 else 0)
    rw [ih (by omega), ch_un (by omega)]
theorem ch_cdN {st : Nat → Int32} {d : Nat} {x : Int32} (h : ¬ st d = 2) (hx : ¬ x = 2) : ∀ n, ch_cd (upd st d x) n = ch_cd st n := by
  intro n
  induction n with
  | zero => rfl
  | succ n ih =>
    show ch_cd (upd st d x) n + (if upd st d x n = 2 then 1 else 0) = ch_cd st n + (if st n = 2 then 1 else 0)
    rw [ih]
    by_cases q : n = d
    · rw [q, ch_us, if_neg hx, if_neg h]
    · rw [ch_un q]
theorem ch_cdS {st : Nat → Int32} {d : Nat} (h : ¬ st d = 2) : ∀ n, d < n → ch_cd (upd st d 2) n = ch_cd st n + 1 := by
  intro n
  induction n with
  | zero => intro h; omega
  | succ n ih =>
    intro hn
    show ch_cd (upd st d 2) n + (if upd st d 2 n = 2 then 1 else 0) = ch_cd st n + (if st n = 2 then 1 else 0) + 1
    by_cases q : n = d
    · rw [q, ch_us, if_neg h, if_pos rfl, ch_cdU d (Nat.le_refl d)]
    · rw [ih (by omega), ch_un q]; omega
/-- how many below n are active; .. but one -/
def ch_ca (st : Nat → Int32) : Nat → Nat
  | 0 => 0
  | n + 1 => ch_ca st n + (if st n = 0 then 1 else 0)
def ch_co (st : Nat → Int32) (m : Nat) : Nat → Nat
  | 0 => 0
  | n + 1 => ch_co st m n + (if n ≠ m ∧ st n = 0 then 1 else 0)
theorem ch_caB (st : Nat → Int32) : ∀ n, ch_ca st n ≤ n := by
  intro n
  induction n with
  | zero => exact Nat.le_refl _
  | succ n ih =>
    show ch_ca st n + (if st n = 0 then 1 else 0) ≤ n + 1
    split <;> omega
theorem ch_coB (st : Nat → Int32) (m : Nat) : ∀ n, ch_co st m n ≤ n := by
  intro n
  induction n with
  | zero => exact Nat.le_refl _
  | succ n ih =>
    show ch_co st m n + (if n ≠ m ∧ st n = 0 then 1 else 0) ≤ n + 1
    split <;> omega
theorem ch_coE {st : Nat → Int32} {m : Nat} (h : st m = 0) : ∀ n, ch_ca st n = ch_co st m n + (if m < n then 1 else 0) := by
  intro n
  induction n with
  | zero => rfl
  | succ n ih =>
    show ch_ca st n + (if st n = 0 then 1 else 0) = ch_co st m n + (if n ≠ m ∧ st n = 0 then 1 else 0) + (if m < n + 1 then 1 else 0)
    rw [ih]
    by_cases q : n = m
    · subst q
      rw [if_neg (Nat.lt_irrefl n), if_pos h, if_neg (fun z => z.1 rfl), if_pos (Nat.lt_succ_self n)]
    · have e : (if m < n + 1 then 1 else 0) = (if m < n then 1 else 0) := by
        by_cases z : m < n
        · rw [if_pos z, if_pos (by omega)]
        · rw [if_neg z, if_neg (by omega)]
      rw [e]
      by_cases z : st n = 0
      · have a : (n ≠ m ∧ st n = 0) := ⟨q, z⟩
        rw [if_pos z, if_pos a]; omega
      · have a : ¬ (n ≠ m ∧ st n = 0) := fun y => z y.2
        rw [if_neg z, if_neg a]; omega
end CHB
end
section
section CHC
/-! D: positions that are moved: sold, or allocated -/
def ch_al (g : Nat → Int32) (i : Nat) (p : Nat → Int32) : Nat → Nat → Int32
  | 0 => p
  | m + 1 => upd (ch_al g i p m) (m * 4 + i) (ch_al g i p m (m * 4 + i) + g m)
theorem ch_alE {g : Nat → Int32} {i : Nat} {p : Nat → Int32} (hi : i < 4) : ∀ n s, ch_al g i p n s = if s % 4 = i ∧ s / 4 < n then p s + g (s / 4) else p s := by
  intro n
  induction n with
  | zero => intro s; rw [if_neg (fun q => Nat.not_lt_zero _ q.2)]; rfl
  | succ n ih =>
    intro s
    show upd (ch_al g i p n) (n * 4 + i) (ch_al g i p n (n * 4 + i) + g n) s = _
    by_cases q : s = n * 4 + i
    · have e1 : s % 4 = i := by omega
      have e2 : s / 4 = n := by omega
      rw [if_pos ⟨e1, by omega⟩, ← q, ch_us, ih, if_neg (fun z => by omega), e2]
    · rw [ch_un q, ih]
      by_cases z : s % 4 = i ∧ s / 4 < n
      · rw [if_pos z, if_pos ⟨z.1, by omega⟩]
      · rw [if_neg z, if_neg (fun y => z ⟨y.1, by omega⟩)]
theorem ch_al0 {g : Nat → Int32} {i : Nat} {p : Nat → Int32} : ∀ n, (∀ m, m < n → g m = 0) → ch_al g i p n = p := by
  intro n
  induction n with
  | zero => intro _; rfl
  | succ n ih =>
    intro h
    show upd (ch_al g i p n) (n * 4 + i) (ch_al g i p n (n * 4 + i) + g n) = p
    rw [ih (fun m hm => h m (by omega)), h n (by omega)]
    exact ch_uId (Int32.add_zero _).symm
theorem ch_alU {g : Nat → Int32} {i s : Nat} {p : Nat → Int32} (hi : i < 4) : ∀ n, s < n → (∀ m, m < n → m ≠ s → g m = 0) → ch_al g i p n = upd p (s * 4 + i) (p (s * 4 + i) + g s) := by
  intro n hs h
  funext t
  rw [ch_alE hi]
  by_cases q : t = s * 4 + i
  · have e2 : t / 4 = s := by omega
    rw [if_pos ⟨by omega, by omega⟩, ← q, ch_us, e2]
  · rw [ch_un q]
    by_cases z : t % 4 = i ∧ t / 4 < n
    · rw [if_pos z, h _ z.2 (by omega), Int32.add_zero]
    · rw [if_neg z]
/-- sold: column after column -/
def ch_se (w d : Nat) (p : Nat → Int32) : Nat → Nat → Int32
  | 0 => p
  | i + 1 => upd (upd (ch_se w d p i) (w * 4 + i) (ch_se w d p i (w * 4 + i) + ch_se w d p i (d * 4 + i))) (d * 4 + i) 0
/-- allocated: column after column; G q m: what m gets of q -/
def ch_aa (G : Int32 → Nat → Int32) (M d : Nat) (p : Nat → Int32) : Nat → Nat → Int32
  | 0 => p
  | i + 1 => upd (ch_al (G (ch_aa G M d p i (d * 4 + i))) i (ch_aa G M d p i) M) (d * 4 + i) 0
def ch_ab (B : Int) (x : Int32) : Prop := -B ≤ x.toInt ∧ x.toInt ≤ B
def ch_col (B : Int) (i : Nat) (p : Nat → Int32) : Prop := ∀ s, (s % 4 < i → ch_ab (2 * B) (p s)) ∧ (i ≤ s % 4 → ch_ab B (p s))
theorem ch_ab0 {B : Int} (h : 0 ≤ B) : ch_ab B 0 := by
  have : (0 : Int32).toInt = 0 := by decide
  unfold ch_ab; rw [this]; omega
theorem ch_abM {B C : Int} {x : Int32} (h : ch_ab B x) (hc : B ≤ C) : ch_ab C x := ⟨by have := h.1; omega, by have := h.2; omega⟩
theorem ch_abAdd {B C : Int} {x y : Int32} (hx : ch_ab B x) (hy : ch_ab C y) (hB : B + C < 2147483648) : ch_ab (B + C) (x + y) := by
  have a := hx.1; have b := hx.2; have c := hy.1; have d := hy.2
  unfold ch_ab
  rw [ch_addI (by omega) (by omega)]
  omega
theorem ch_seCol {B : Int} (hB : 0 ≤ B) (hB' : 2 * B < 2147483648) {w d : Nat} {p : Nat → Int32} (h : ∀ s, ch_ab B (p s)) : ∀ i, i ≤ 4 → ch_col B i (ch_se w d p i) := by
  intro i
  induction i with
  | zero => intro _ s; exact ⟨fun z => absurd z (Nat.not_lt_zero _), fun _ => h s⟩
  | succ i ih =>
    intro hi s
    have I := ih (by omega)
    show (_ → ch_ab _ (upd (upd (ch_se w d p i) (w * 4 + i) (ch_se w d p i (w * 4 + i) + ch_se w d p i (d * 4 + i))) (d * 4 + i) 0 s)) ∧ (_ → ch_ab _ (upd (upd (ch_se w d p i) (w * 4 + i) (ch_se w d p i (w * 4 + i) + ch_se w d p i (d * 4 + i))) (d * 4 + i) 0 s))
    by_cases q : s = d * 4 + i
    · rw [q, ch_us]
      exact ⟨fun _ => ch_ab0 (by omega), fun _ => ch_ab0 (by omega)⟩
    · rw [ch_un q]
      by_cases z : s = w * 4 + i
      · rw [z, ch_us]
        have a := (I (w * 4 + i)).2 (by omega)
        have b := (I (d * 4 + i)).2 (by omega)
        have c := ch_abAdd a b (by omega)
        exact ⟨fun _ => ch_abM c (by omega), fun y => by omega⟩
      · rw [ch_un z]
        refine ⟨fun y => ?_, fun y => (I s).2 (by omega)⟩
        by_cases v : s % 4 < i
        · exact (I s).1 v
        · exact ch_abM ((I s).2 (by omega)) (by omega)
theorem ch_aaCol {B : Int} (hB : 0 ≤ B) (hB' : 2 * B < 2147483648) {G : Int32 → Nat → Int32} {M d : Nat} {p : Nat → Int32} (hG : ∀ q, ch_ab B q → ∀ m, m < M → ch_ab B (G q m)) (h : ∀ s, ch_ab B (p s)) : ∀ i, i ≤ 4 → ch_col B i (ch_aa G M d p i) := by
  intro i
  induction i with
  | zero => intro _ s; exact ⟨fun z => absurd z (Nat.not_lt_zero _), fun _ => h s⟩
  | succ i ih =>
    intro hi s
    have I := ih (by omega)
    show (_ → ch_ab _ (upd (ch_al (G (ch_aa G M d p i (d * 4 + i))) i (ch_aa G M d p i) M) (d * 4 + i) 0 s)) ∧ (_ → ch_ab _ (upd (ch_al (G (ch_aa G M d p i (d * 4 + i))) i (ch_aa G M d p i) M) (d * 4 + i) 0 s))
    by_cases q : s = d * 4 + i
    · rw [q, ch_us]
      exact ⟨fun _ => ch_ab0 (by omega), fun _ => ch_ab0 (by omega)⟩
    · rw [ch_un q, ch_alE (by omega)]
      by_cases z : s % 4 = i ∧ s / 4 < M
      · rw [if_pos z]
        have a := (I s).2 (by omega)
        have b := hG _ ((I (d * 4 + i)).2 (by omega)) _ z.2
        have c := ch_abAdd a b (by omega)
        exact ⟨fun _ => ch_abM c (by omega), fun y => by omega⟩
      · rw [if_neg z]
        refine ⟨fun y => ?_, fun y => (I s).2 (by omega)⟩
        by_cases v : s % 4 < i
        · exact (I s).1 v
        · exact ch_abM ((I s).2 (by omega)) (by omega)
theorem ch_colAll {B : Int} {i : Nat} {p : Nat → Int32} (hB : 0 ≤ B) (h : ch_col B i p) : ∀ s, ch_ab (2 * B) (p s) := by
  intro s
  by_cases v : s % 4 < i
  · exact (h s).1 v
  · exact ch_abM ((h s).2 (by omega)) (by omega)
/-- the first active member below n: it alone -/
def ch_fa (st : Nat → Int32) : Nat → Option Nat
  | 0 => none
  | n + 1 => match ch_fa st n with
    | some s => some s
    | none => if st n = 0 then some n else none
theorem ch_faN {st : Nat → Int32} : ∀ n, ch_fa st n = none → ∀ j, j < n → ¬ st j = 0 := by
  intro n
  induction n with
  | zero => intro _ j hj; omega
  | succ n ih =>
    intro h j hj
    unfold ch_fa at h
    split at h
    · cases h
    · next e =>
      by_cases q : j = n
      · intro z; rw [q] at z; rw [if_pos z] at h; cases h
      · exact ih e j (by omega)
theorem ch_faS {st : Nat → Int32} : ∀ n s, ch_fa st n = some s → s < n ∧ st s = 0 ∧ ∀ j, j < s → ¬ st j = 0 := by
  intro n
  induction n with
  | zero => intro s h; cases h
  | succ n ih =>
    intro s h
    unfold ch_fa at h
    split at h
    · next t e =>
      cases h
      obtain ⟨a, b, c⟩ := ih _ e
      exact ⟨by omega, b, c⟩
    · next e =>
      by_cases q : st n = 0
      · rw [if_pos q] at h
        cases h
        exact ⟨by omega, q, ch_faN n e⟩
      · rw [if_neg q] at h; cases h
end CHC
end
section
section CHS
/-! sums: of integers, of longs, of naturals -/
def ch_sI (f : Nat → Int) : Nat → Int
  | 0 => 0
  | n + 1 => ch_sI f n + f n
def ch_sL (f : Nat → Int64) : Nat → Int64
  | 0 => 0
  | n + 1 => ch_sL f n + f n
def ch_sN (f : Nat → Nat) : Nat → Nat
  | 0 => 0
  | n + 1 => ch_sN f n + f n
theorem ch_sIc {f g : Nat → Int} : ∀ n, (∀ j, j < n → f j = g j) → ch_sI f n = ch_sI g n := by
  intro n
  induction n with
  | zero => intro _; rfl
  | succ n ih =>
    intro h
    show ch_sI f n + f n = ch_sI g n + g n
    rw [ih (fun j hj => h j (by omega)), h n (by omega)]
theorem ch_sLc {f g : Nat → Int64} : ∀ n, (∀ j, j < n → f j = g j) → ch_sL f n = ch_sL g n := by
  intro n
  induction n with
  | zero => intro _; rfl
  | succ n ih =>
    intro h
    show ch_sL f n + f n = ch_sL g n + g n
    rw [ih (fun j hj => h j (by omega)), h n (by omega)]
theorem ch_sIa (f g : Nat → Int) : ∀ n, ch_sI (fun j => f j + g j) n = ch_sI f n + ch_sI g n := by
  intro n
  induction n with
  | zero => rfl
  | succ n ih =>
    show ch_sI (fun j => f j + g j) n + (f n + g n) = ch_sI f n + f n + (ch_sI g n + g n)
    rw [ih]; omega
theorem ch_sLa (f g : Nat → Int64) : ∀ n, ch_sL (fun j => f j + g j) n = ch_sL f n + ch_sL g n := by
  intro n
  induction n with
  | zero => rfl
  | succ n ih =>
    show ch_sL (fun j => f j + g j) n + (f n + g n) = ch_sL f n + f n + (ch_sL g n + g n)
    rw [ih]; grind
theorem ch_sLs (f g : Nat → Int64) : ∀ n, ch_sL (fun j => f j - g j) n = ch_sL f n - ch_sL g n := by
  intro n
  induction n with
  | zero => exact (by decide : (0 : Int64) = 0 - 0)
  | succ n ih =>
    show ch_sL (fun j => f j - g j) n + (f n - g n) = ch_sL f n + f n - (ch_sL g n + g n)
    rw [ih]; grind
theorem ch_sIm (f : Nat → Int) (c : Int) : ∀ n, ch_sI (fun j => f j * c) n = ch_sI f n * c := by
  intro n
  induction n with
  | zero => show (0 : Int) = 0 * c; rw [Int.zero_mul]
  | succ n ih =>
    show ch_sI (fun j => f j * c) n + f n * c = (ch_sI f n + f n) * c
    rw [ih, Int.add_mul]
theorem ch_sI1 (a : Nat) (x : Int) : ∀ n, ch_sI (fun j => if j = a then x else 0) n = if a < n then x else 0 := by
  intro n
  induction n with
  | zero => rw [if_neg (Nat.not_lt_zero _)]; rfl
  | succ n ih =>
    show ch_sI (fun j => if j = a then x else 0) n + (if n = a then x else 0) = _
    rw [ih]
    by_cases q : n = a
    · rw [if_pos q, if_neg (by omega), if_pos (by omega)]; omega
    · rw [if_neg q]
      by_cases z : a < n
      · rw [if_pos z, if_pos (by omega)]; omega
      · rw [if_neg z, if_neg (by omega)]; rfl
theorem ch_sLu {f : Nat → Int64} {a : Nat} {x : Int64} : ∀ n, ch_sL (vp_updL f a x) n = if a < n then ch_sL f n - f a + x else ch_sL f n := by
  intro n
  induction n with
  | zero => rw [if_neg (Nat.not_lt_zero _)]; rfl
  | succ n ih =>
    show ch_sL (vp_updL f a x) n + vp_updL f a x n = if a < n + 1 then ch_sL f n + f n - f a + x else ch_sL f n + f n
    rw [ih]
    by_cases q : n = a
    · subst q
      rw [ch_uLs, if_neg (Nat.lt_irrefl n), if_pos (Nat.lt_succ_self n)]; grind
    · rw [ch_uLn q]
      by_cases z : a < n
      · rw [if_pos z, if_pos (by omega)]; grind
      · rw [if_neg z, if_neg (by omega)]
theorem ch_sIL (f : Nat → Int) : ∀ n, ch_sL (fun j => ch_L (f j)) n = ch_L (ch_sI f n) := by
  intro n
  induction n with
  | zero => exact (by decide : (0 : Int64) = ch_L 0)
  | succ n ih =>
    show ch_sL (fun j => ch_L (f j)) n + ch_L (f n) = ch_L (ch_sI f n + f n)
    rw [ih, ch_Ladd]
theorem ch_sNL (f : Nat → Nat) : ∀ n, ch_sL (fun j => lN (f j)) n = lN (ch_sN f n) := by
  intro n
  induction n with
  | zero => rfl
  | succ n ih =>
    show ch_sL (fun j => lN (f j)) n + lN (f n) = lN (ch_sN f n + f n)
    rw [ih, lN_add]
theorem ch_sNI (f : Nat → Nat) : ∀ n, ch_sI (fun j => (f j : Int)) n = (ch_sN f n : Int) := by
  intro n
  induction n with
  | zero => rfl
  | succ n ih =>
    show ch_sI (fun j => (f j : Int)) n + (f n : Int) = ((ch_sN f n + f n : Nat) : Int)
    rw [ih]; omega
/-! the parts of a split sum to what is split -/
def ch_rs (st : Nat → Int32) (f : Nat → Nat) (A F : Nat) : Nat → Nat
  | 0 => 0
  | n + 1 => ch_rs st f A F n + (if st n = 0 then A * f n % F else 0)
theorem ch_rsE (st : Nat → Int32) (f : Nat → Nat) (A F : Nat) : ∀ n, A * ch_fs st f n = F * ch_gs st f A F n + ch_rs st f A F n := by
  intro n
  induction n with
  | zero => rfl
  | succ n ih =>
    show A * (ch_fs st f n + (if st n = 0 then f n else 0)) = F * (ch_gs st f A F n + (if st n = 0 then A * f n / F else 0)) + (ch_rs st f A F n + (if st n = 0 then A * f n % F else 0))
    rw [Nat.mul_add, Nat.mul_add, ih]
    by_cases s0 : st n = 0
    · rw [if_pos s0, if_pos s0, if_pos s0]
      have := Nat.div_add_mod (A * f n) F
      omega
    · rw [if_neg s0, if_neg s0, if_neg s0, Nat.mul_zero, Nat.mul_zero]; omega
theorem ch_rsB {st : Nat → Int32} {f : Nat → Nat} {A F : Nat} (hF : 0 < F) : ∀ n, ch_rs st f A F n ≤ ch_el st f n * F := by
  intro n
  induction n with
  | zero => show 0 ≤ _; omega
  | succ n ih =>
    show ch_rs st f A F n + (if st n = 0 then A * f n % F else 0) ≤ (ch_el st f n + (if st n = 0 ∧ 0 < f n then 1 else 0)) * F
    by_cases s0 : st n = 0
    · rw [if_pos s0]
      by_cases f0 : 0 < f n
      · rw [if_pos ⟨s0, f0⟩, Nat.add_mul, Nat.one_mul]
        have := Nat.mod_lt (A * f n) hF
        omega
      · have e : f n = 0 := by omega
        have z : ¬ (st n = 0 ∧ 0 < f n) := fun y => f0 y.2
        rw [if_neg z, e, Nat.mul_zero, Nat.zero_mod, Nat.add_zero, Nat.add_zero]
        exact ih
    · have z : ¬ (st n = 0 ∧ 0 < f n) := fun y => s0 y.1
      rw [if_neg s0, if_neg z, Nat.add_zero, Nat.add_zero]
      exact ih
theorem ch_gSum {st : Nat → Int32} {f : Nat → Nat} {A M : Nat} (hF : 0 < ch_fs st f M) : ch_sN (ch_g st f A (ch_fs st f M) M) M = A := by
  have a := ch_rsE st f A (ch_fs st f M) M
  have b := ch_rsB (st := st) (f := f) (A := A) hF M
  generalize hFe : ch_fs st f M = F at a b hF
  have c1 : ch_gs st f A F M ≤ A := by
    have : F * ch_gs st f A F M ≤ F * A := by rw [Nat.mul_comm F A]; omega
    exact Nat.le_of_mul_le_mul_left this hF
  have c2 : A ≤ ch_gs st f A F M + ch_el st f M := by
    have : F * A ≤ F * (ch_gs st f A F M + ch_el st f M) := by
      rw [Nat.mul_add, Nat.mul_comm F A, Nat.mul_comm F (ch_el st f M)]; omega
    exact Nat.le_of_mul_le_mul_left this hF
  have key : ∀ n, ch_sN (ch_g st f A F M) n = ch_gs st f A F n + (if ch_el st f n + ch_gs st f A F M ≤ A then ch_el st f n else A - ch_gs st f A F M) := by
    intro n
    induction n with
    | zero =>
      show 0 = 0 + (if 0 + ch_gs st f A F M ≤ A then 0 else A - ch_gs st f A F M)
      rw [if_pos (by omega)]
    | succ n ih =>
      show ch_sN (ch_g st f A F M) n + (ch_g0 st f A F n + (if (st n = 0 ∧ 0 < f n) ∧ ch_el st f n + ch_gs st f A F M < A then 1 else 0)) = ch_gs st f A F n + ch_g0 st f A F n + (if ch_el st f n + (if st n = 0 ∧ 0 < f n then 1 else 0) + ch_gs st f A F M ≤ A then ch_el st f n + (if st n = 0 ∧ 0 < f n then 1 else 0) else A - ch_gs st f A F M)
      rw [ih]
      by_cases e : st n = 0 ∧ 0 < f n
      · rw [if_pos e]
        by_cases z : ch_el st f n + ch_gs st f A F M < A
        · have P1 : (st n = 0 ∧ 0 < f n) ∧ ch_el st f n + ch_gs st f A F M < A := ⟨e, z⟩
          have P2 : ch_el st f n + ch_gs st f A F M ≤ A := by omega
          have P3 : ch_el st f n + 1 + ch_gs st f A F M ≤ A := by omega
          rw [if_pos P1, if_pos P2, if_pos P3]; omega
        · have P1 : ¬ ((st n = 0 ∧ 0 < f n) ∧ ch_el st f n + ch_gs st f A F M < A) := fun y => z y.2
          have P3 : ¬ ch_el st f n + 1 + ch_gs st f A F M ≤ A := by omega
          rw [if_neg P1, if_neg P3]
          by_cases w : ch_el st f n + ch_gs st f A F M ≤ A
          · rw [if_pos w]; omega
          · rw [if_neg w]; omega
      · have P1 : ¬ ((st n = 0 ∧ 0 < f n) ∧ ch_el st f n + ch_gs st f A F M < A) := fun y => e y.1
        rw [if_neg e, if_neg P1, Nat.add_zero, Nat.add_zero]
        omega
  rw [key M]
  by_cases w : ch_el st f M + ch_gs st f A F M ≤ A
  · rw [if_pos w]; omega
  · rw [if_neg w]; omega
end CHS
end
section
section CHD
/-! E: the relation -/
def ch_Ph (M : Nat) (fd : Int32) (st : Nat → Int32) : Prop := (fd = -1 ∧ ∀ j, j < M → ¬ st j = 1) ∨ ∃ d, d < M ∧ fd = nI d ∧ st d = 1 ∧ ∀ j, j < M → j ≠ d → ¬ st j = 1
def ch_Fd (k : Nat) (fu : Nat → Int64) : Prop := ∀ j, 0 ≤ (fu j).toInt ∧ (fu j).toInt ≤ 200000 * (k : Int)
def ch_aL (B : Int) (x : Int64) : Prop := -B ≤ x.toInt ∧ x.toInt ≤ B
def ch_Ca (k : Nat) (ca : Nat → Int64) : Prop := ∀ j, ch_aL (10000000000000 * (k : Int)) (ca j)
def ch_pb (st : Nat → Int32) (M : Nat) : Int := 10000 * ((2 ^ ch_cd st M : Nat) : Int)
def ch_Po (M : Nat) (st ps : Nat → Int32) : Prop := ∀ s, ch_ab (ch_pb st M) (ps s)
def ch_pr (x : Int32) : Prop := 1 ≤ x.toInt ∧ x.toInt ≤ 100000
def ch_Pr (cu se : Nat → Int32) : Prop := ∀ i, i < 4 → ch_pr (cu i) ∧ ch_pr (se i)
def ch_Cn (M N R : Nat) : Prop := (2 ≤ M ∧ M ≤ 8) ∧ (1 ≤ N ∧ N ≤ 4) ∧ (1 ≤ R ∧ R ≤ 50)
theorem ch_FdU {k k' : Nat} {fu : Nat → Int64} (h : ch_Fd k fu) (hk : k ≤ k') : ch_Fd k' fu := by
  intro j; have := h j; omega
theorem ch_aLM {B C : Int} {x : Int64} (h : ch_aL B x) (hc : B ≤ C) : ch_aL C x := ⟨by have := h.1; omega, by have := h.2; omega⟩
theorem ch_CaU {k k' : Nat} {ca : Nat → Int64} (h : ch_Ca k ca) (hk : k ≤ k') : ch_Ca k' ca := by
  intro j; exact ch_aLM (h j) (by omega)
theorem ch_n10 : ¬ (1 : Int32) = 0 := by decide
theorem ch_slot (m i : Nat) : nI m * 4 + nI i = nI (m * 4 + i) := by
  rw [show (4 : Int32) = nI 4 from rfl, pk_mul, nI_add]
theorem ch_pbB {st : Nat → Int32} {M : Nat} (h : M ≤ 8) : 10000 ≤ ch_pb st M ∧ ch_pb st M ≤ 2560000 := by
  have a := ch_cdB st M
  have b : 2 ^ ch_cd st M ≤ 2 ^ 8 := Nat.pow_le_pow_right (by decide) (by omega)
  have c : 1 ≤ 2 ^ ch_cd st M := Nat.one_le_two_pow
  unfold ch_pb
  omega
/-! the small readings -/
theorem ch_sort (x : Int32) {n : Nat} (hn : n < 2 ^ 31) : (x < 0) ∨ (¬ x < 0 ∧ nI n ≤ x) ∨ ∃ j : Nat, j < n ∧ x = nI j ∧ ¬ nI j < 0 ∧ ¬ nI n ≤ nI j := by
  rcases pk_ix x hn with h | h | ⟨j, hj, e⟩
  · exact Or.inl h
  · by_cases q : x < 0
    · exact Or.inl q
    · exact Or.inr (Or.inl ⟨q, h⟩)
  · exact Or.inr (Or.inr ⟨j, hj, e, nI_pos (by omega), nI_ge hj hn⟩)
end CHD
end
section
section CHE
/-! F: the initial margin, on both sides -/
variable {M N R : Nat} {H : Int64} {fd : Int32} {st : Nat → Int32} {ca fu mc : Nat → Int64} {hb ba : Nat → Int32} {bb : Nat → Int64} {ps cu se : Nat → Int32} {wf pa pb : Nat → Int64}
def ch_w (se : Nat → Int32) (R : Nat) (i : Nat) : Int := (se i).toInt * (R : Int) / 100
def ch_p (ps se : Nat → Int32) (R m : Nat) (i : Nat) : Int := (ps (m * 4 + i)).toInt * ch_w se R i
theorem ch_wB {i : Nat} (h : ch_pr (se i)) (hR : 1 ≤ R ∧ R ≤ 50) : (0 ≤ (se i).toInt * (R : Int) ∧ (se i).toInt * (R : Int) ≤ 5000000) ∧ 0 ≤ ch_w se R i ∧ ch_w se R i ≤ 50000 := by
  have a := h.1
  have b := h.2
  have c : 0 ≤ (se i).toInt * (R : Int) := Int.mul_nonneg (by omega) (by omega)
  have d : (se i).toInt * (R : Int) ≤ 100000 * 50 := Int.mul_le_mul b (by omega) (by omega) (by omega)
  unfold ch_w
  omega
theorem ch_wX {i : Nat} (h : ch_pr (se i)) (hR : 1 ≤ R ∧ R ≤ 50) : ((se i).toInt64 * (nI R).toInt64) / 100 = ch_L (ch_w se R i) := by
  have b := ch_wB h hR
  apply Int64.toInt_inj.mp
  rw [Int64.toInt_div_of_ne_right _ _ (by decide), ch_LT (by omega) (by omega), show (100 : Int64).toInt = 100 from by decide]
  have e : ((se i).toInt64 * (nI R).toInt64).toInt = (se i).toInt * (R : Int) := by
    rw [ch_mulL] <;> rw [Int32.toInt_toInt64, Int32.toInt_toInt64, nI_toInt (by omega)] <;> omega
  rw [e, Int.tdiv_eq_ediv_of_nonneg b.1.1]
  rfl
theorem ch_wY {i : Nat} (h : ch_pr (se i)) (hR : 1 ≤ R ∧ R ≤ 50) : ((se i * nI R) / 100).toInt64 = ch_L (ch_w se R i) := by
  have b := ch_wB h hR
  apply Int64.toInt_inj.mp
  rw [Int32.toInt_toInt64, Int32.toInt_div_of_ne_right _ _ (by decide), ch_LT (by omega) (by omega), show (100 : Int32).toInt = 100 from by decide]
  have e : (se i * nI R).toInt = (se i).toInt * (R : Int) := by
    rw [ch_mulI] <;> rw [nI_toInt (by omega)] <;> omega
  rw [e, Int.tdiv_eq_ediv_of_nonneg b.1.1]
  rfl
theorem ch_pB {m : Nat} (h : ch_Pr cu se) (hR : 1 ≤ R ∧ R ≤ 50) : ∀ i, i < 4 → -107374182400000 ≤ ch_p ps se R m i ∧ ch_p ps se R m i ≤ 107374182400000 := by
  intro i hi
  have b := ch_wB (h i hi).2 hR
  have c := (ps (m * 4 + i)).toInt_lt
  have d := (ps (m * 4 + i)).le_toInt
  have e := ch_absmul (a := (ps (m * 4 + i)).toInt) (b := ch_w se R i) (A := 2147483648) (B := 50000) (by omega) (by omega) (by omega) (by omega)
  unfold ch_p
  omega
theorem ch_xG {post : Int64 → Prop} {a b : Int} (ha : -1000000000000000 ≤ a ∧ a ≤ 1000000000000000) (hbb : -1000000000000000 ≤ b ∧ b ≤ 1000000000000000) (h : post (ch_L (ch_mx a b))) : wpX_greater post () (ch_L a) (ch_L b) := by
  unfold wpX_greater
  have e : ch_L a ≤ ch_L b ↔ a ≤ b := ch_Lle (by omega) (by omega) (by omega) (by omega)
  unfold ch_mx at h
  by_cases q : a ≤ b
  · rw [if_neg (by omega)] at h
    exact br_t (e.mpr q) h
  · rw [if_pos (by omega)] at h
    exact br_f (fun z => q (e.mp z)) h
theorem ch_xSlot {post : Int32 → Prop} {m i : Nat} (h : post (nI (m * 4 + i))) : wpX_slot post () (nI m) (nI i) := by
  unfold wpX_slot
  rw [ch_slot]
  exact h
theorem ch_xWL {post : Int64 → Prop} {m : Nat} {l : Int} (hm : m < 8) (hN : N ≤ 4) (hR : 1 ≤ R ∧ R ≤ 50) (hr : ch_Pr cu se) (h1 : -2 ≤ l) (h2 : l ≤ 1) :
    ∀ (n i : Nat) (s : Int), i + n = N → post (ch_L (s + ch_xw (ch_p ps se R m) l n i)) → wX_worstLoss_5 post (nI m) (ch_I l) (nI M) (nI N) (nI R) H fd st ca fu mc hb ba ps cu se wf pa (n + 1) (ch_L s) (nI i) := by
  intro n
  induction n with
  | zero =>
    intro i s hi hp
    rw [show s + ch_xw (ch_p ps se R m) l 0 i = s from Int.add_zero s] at hp
    exact br_t (nI_le (by omega) (by omega)) hp
  | succ n ih =>
    intro i s hi hp
    have hp4 := (hr i (by omega)).2
    have pb := ch_pB (ps := ps) (m := m) hr hR i (by omega)
    have b1 := ch_absmul (a := -(ch_p ps se R m i)) (b := l) (A := 107374182400000) (B := 2) (by omega) (by omega) (by omega) (by omega)
    have b2 := ch_absmul (a := -(ch_p ps se R m i)) (b := l + 1) (A := 107374182400000) (B := 2) (by omega) (by omega) (by omega) (by omega)
    refine br_f (nI_ge (by omega) (by omega)) ⟨vp_in_nI (by omega) (by omega), by decide, ?_⟩
    rw [nI_clamp (by omega)]
    refine nm_r (ch_wX hp4 hR) ?_
    refine ch_xSlot ⟨vp_in_nI (by omega) (by omega), ?_⟩
    rw [nI_clamp (by omega)]
    refine nm_r (e' := ch_L (-(ch_p ps se R m i))) (by rw [ch_Li, ch_Lmul, ch_Lneg]; rfl) ?_
    have e1 : ch_L (-(ch_p ps se R m i)) * (ch_I l).toInt64 = ch_L (-(ch_p ps se R m i) * l) := by rw [ch_LI (by omega) (by omega), ch_Lmul]
    have e2 : ch_L (-(ch_p ps se R m i)) * (ch_I l + 1).toInt64 = ch_L (-(ch_p ps se R m i) * (l + 1)) := by
      rw [show (1 : Int32) = ch_I 1 from by decide, ch_Iadd, ch_LI (by omega) (by omega), ch_Lmul]
    rw [e1, e2]
    refine ch_xG (by omega) (by omega) ?_
    refine nm_r (ch_Ladd _ _) (nm_r (nI_1 i) ?_)
    refine ih (i + 1) _ (by omega) ?_
    rw [show s + ch_mx (-(ch_p ps se R m i) * l) (-(ch_p ps se R m i) * (l + 1)) + ch_xw (ch_p ps se R m) l n (i + 1) = s + ch_xw (ch_p ps se R m) l (n + 1) i from Int.add_assoc _ _ _]
    exact hp
theorem ch_xIMs {post : Int64 → Prop} {m : Nat} {l a : Int} {n : Nat} (hm : m < 8) (hN : N ≤ 4) (hR : 1 ≤ R ∧ R ≤ 50) (hr : ch_Pr cu se) (h1 : -2 ≤ l) (h2 : l ≤ 1) (ha : -1000000000000000 ≤ a ∧ a ≤ 1000000000000000)
    (h : wX_initialMargin_6 post (nI m) (nI M) (nI N) (nI R) H fd st ca fu mc hb ba ps cu se wf pa n (ch_L (ch_mx a (ch_xw (ch_p ps se R m) l N 0))) (ch_I (l + 1))) :
    wX_initialMargin_6 post (nI m) (nI M) (nI N) (nI R) H fd st ca fu mc hb ba ps cu se wf pa (n + 1) (ch_L a) (ch_I l) := by
  have b := ch_xwB (p := ch_p ps se R m) (B := 107374182400000) (l := l) (e := 4) (by omega) h1 h2 (ch_pB hr hR) N 0 (by omega)
  have q : ¬ (2 : Int32) ≤ ch_I l := by
    rw [show (2 : Int32) = ch_I 2 from by decide, ch_Ile (by omega) (by omega) (by omega) (by omega)]; omega
  refine br_f q ?_
  unfold wpX_worstLoss
  refine ⟨N + 1, ?_⟩
  refine ch_xWL (s := 0) hm hN hR hr h1 h2 N 0 (by omega) ?_
  rw [Int.zero_add]
  refine ch_xG ha (by omega) ?_
  refine nm_r (e' := ch_I (l + 1)) (by rw [show (1 : Int32) = ch_I 1 from by decide, ch_Iadd]) h
theorem ch_imB {m : Nat} (hN : N ≤ 4) (hR : 1 ≤ R ∧ R ≤ 50) (hr : ch_Pr cu se) : 0 ≤ ch_im (ch_p ps se R m) N ∧ ch_im (ch_p ps se R m) N ≤ 858993459200000 := by
  have b : ∀ l : Int, -2 ≤ l → l ≤ 1 → ch_xw (ch_p ps se R m) l N 0 ≤ 858993459200000 := by
    intro l h1 h2
    have := ch_xwB (p := ch_p ps se R m) (B := 107374182400000) (l := l) (e := 4) (by omega) h1 h2 (ch_pB hr hR) N 0 (by omega)
    omega
  have b1 := b (-2) (by omega) (by omega)
  have b2 := b (-1) (by omega) (by omega)
  have b3 := b 0 (by omega) (by omega)
  have b4 := b 1 (by omega) (by omega)
  unfold ch_im ch_mx
  split <;> split <;> split <;> split <;> omega
theorem ch_xIM {post : Int64 → Prop} {m : Nat} (hm : m < 8) (hN : N ≤ 4) (hR : 1 ≤ R ∧ R ≤ 50) (hr : ch_Pr cu se) (h : post (ch_L (ch_im (ch_p ps se R m) N))) : wpX_initialMargin post ((nI M), (nI N), (nI R), H, fd, st, ca, fu, mc, hb, ba, ps, cu, se, wf, pa) (nI m) := by
  have b : ∀ l : Int, -2 ≤ l → l ≤ 1 → -858993459200000 ≤ ch_xw (ch_p ps se R m) l N 0 ∧ ch_xw (ch_p ps se R m) l N 0 ≤ 858993459200000 := by
    intro l h1 h2
    have := ch_xwB (p := ch_p ps se R m) (B := 107374182400000) (l := l) (e := 4) (by omega) h1 h2 (ch_pB hr hR) N 0 (by omega)
    omega
  have b1 := b (-2) (by omega) (by omega)
  have b2 := b (-1) (by omega) (by omega)
  have b3 := b 0 (by omega) (by omega)
  unfold wpX_initialMargin
  refine ⟨5, ?_⟩
  have c1 : -1000000000000000 ≤ ch_mx 0 (ch_xw (ch_p ps se R m) (-2) N 0) ∧ ch_mx 0 (ch_xw (ch_p ps se R m) (-2) N 0) ≤ 1000000000000000 := by
    rcases ch_mxE 0 (ch_xw (ch_p ps se R m) (-2) N 0) with q | q <;> rw [q] <;> omega
  have c2 : -1000000000000000 ≤ ch_mx (ch_mx 0 (ch_xw (ch_p ps se R m) (-2) N 0)) (ch_xw (ch_p ps se R m) (-1) N 0) ∧ ch_mx (ch_mx 0 (ch_xw (ch_p ps se R m) (-2) N 0)) (ch_xw (ch_p ps se R m) (-1) N 0) ≤ 1000000000000000 := by
    rcases ch_mxE (ch_mx 0 (ch_xw (ch_p ps se R m) (-2) N 0)) (ch_xw (ch_p ps se R m) (-1) N 0) with q | q <;> rw [q] <;> omega
  have c3 : -1000000000000000 ≤ ch_mx (ch_mx (ch_mx 0 (ch_xw (ch_p ps se R m) (-2) N 0)) (ch_xw (ch_p ps se R m) (-1) N 0)) (ch_xw (ch_p ps se R m) 0 N 0) ∧ ch_mx (ch_mx (ch_mx 0 (ch_xw (ch_p ps se R m) (-2) N 0)) (ch_xw (ch_p ps se R m) (-1) N 0)) (ch_xw (ch_p ps se R m) 0 N 0) ≤ 1000000000000000 := by
    rcases ch_mxE (ch_mx (ch_mx 0 (ch_xw (ch_p ps se R m) (-2) N 0)) (ch_xw (ch_p ps se R m) (-1) N 0)) (ch_xw (ch_p ps se R m) 0 N 0) with q | q <;> rw [q] <;> omega
  have z : wX_initialMargin_6 post (nI m) (nI M) (nI N) (nI R) H fd st ca fu mc hb ba ps cu se wf pa 5 (ch_L 0) (ch_I (-2)) := by
    refine ch_xIMs hm hN hR hr (by omega) (by omega) (by omega) ?_
    refine ch_xIMs (l := -1) hm hN hR hr (by omega) (by omega) c1 ?_
    refine ch_xIMs (l := 0) hm hN hR hr (by omega) (by omega) c2 ?_
    refine ch_xIMs (l := 1) hm hN hR hr (by omega) (by omega) c3 ?_
    exact br_t (by decide) h
  exact z
/-! the reference's -/
end CHE
end
section
section CHF
/-! G: the phase; the writers without loops -/
variable {M N R : Nat} {H : Int64} {fd : Int32} {st : Nat → Int32} {ca fu mc : Nat → Int64} {hb ba : Nat → Int32} {bb : Nat → Int64} {ps cu se : Nat → Int32} {wf pa pb : Nat → Int64}
theorem ch_ne1 {a : Nat} (h : a < 2 ^ 31) : ¬ nI a = -1 := by
  intro e
  have := nI_pos (n := a) h
  rw [e] at this
  exact this (by decide)
theorem ch_m1 : (-1 : Int32) < 0 := by decide
theorem ch_m1' : ¬ (0 : Int32) ≤ -1 := by decide
theorem ch_amt {v : Int32} {b : Int32} {c : Int} (hb : b.toInt = c) (h0 : ¬ v < 1) (h1 : v ≤ b) : 1 ≤ v.toInt ∧ v.toInt ≤ c := by
  rw [Int32.lt_iff_toInt_lt] at h0
  rw [Int32.le_iff_toInt_le, hb] at h1
  have : (1 : Int32).toInt = 1 := by decide
  omega
theorem ch_aLadd {B C : Int} {x y : Int64} (hx : ch_aL B x) (hy : ch_aL C y) (hB : B + C < 9223372036854775808) : ch_aL (B + C) (x + y) := by
  have a := hx.1; have b := hx.2; have c := hy.1; have d := hy.2
  unfold ch_aL
  rw [ch_addL (by omega) (by omega)]
  omega
theorem ch_aLsub {B C : Int} {x y : Int64} (hx : ch_aL B x) (hy : ch_aL C y) (hB : B + C < 9223372036854775808) : ch_aL (B + C) (x - y) := by
  have a := hx.1; have b := hx.2; have c := hy.1; have d := hy.2
  unfold ch_aL
  rw [ch_subL (by omega) (by omega)]
  omega
theorem ch_aLi {x : Int32} {C : Int} (h : -C ≤ x.toInt ∧ x.toInt ≤ C) : ch_aL C x.toInt64 := by
  unfold ch_aL; rw [Int32.toInt_toInt64]; exact h
theorem ch_CaAdd {k : Nat} {x : Int64} {m : Nat} (hk : k + 5 ≤ 2564) (h : ch_Ca k ca) (hx : ch_aL 20000000000000 x) : ch_Ca (k + 5) (vp_updL ca m (ca m + x)) := by
  intro j
  refine ch_uLAll (P := ch_aL (10000000000000 * ((k + 5 : Nat) : Int))) (fun i => ch_aLM (h i) (by omega)) ?_ j
  exact ch_aLM (ch_aLadd (h m) hx (by omega)) (by omega)
theorem ch_CaSub {k : Nat} {x : Int64} {m : Nat} (hk : k + 5 ≤ 2564) (h : ch_Ca k ca) (hx : ch_aL 20000000000000 x) : ch_Ca (k + 5) (vp_updL ca m (ca m - x)) := by
  intro j
  refine ch_uLAll (P := ch_aL (10000000000000 * ((k + 5 : Nat) : Int))) (fun i => ch_aLM (h i) (by omega)) ?_ j
  exact ch_aLM (ch_aLsub (h m) hx (by omega)) (by omega)
theorem ch_FdAdd {k : Nat} {v : Int32} {m : Nat} (hk : k + 5 ≤ 2564) (h : ch_Fd k fu) (hx : 1 ≤ v.toInt ∧ v.toInt ≤ 1000000) : ch_Fd (k + 5) (vp_updL fu m (fu m + v.toInt64)) := by
  have a := h m
  have b := Int32.toInt_toInt64 v
  have e : (fu m + v.toInt64).toInt = (fu m).toInt + v.toInt64.toInt := ch_addL (by omega) (by omega)
  refine ch_uLAll (P := fun x => 0 ≤ x.toInt ∧ x.toInt ≤ 200000 * ((k + 5 : Nat) : Int)) (fun j => ?_) ?_
  · have := h j; omega
  · show 0 ≤ (fu m + v.toInt64).toInt ∧ (fu m + v.toInt64).toInt ≤ _
    omega
theorem ch_FdSub {k : Nat} {v : Int32} {m : Nat} (hk : k + 5 ≤ 2564) (h : ch_Fd k fu) (hx : 1 ≤ v.toInt ∧ v.toInt ≤ 1000000) (hv : v.toInt64 ≤ fu m) : ch_Fd (k + 5) (vp_updL fu m (fu m - v.toInt64)) := by
  have a := h m
  have b := Int32.toInt_toInt64 v
  have c := Int64.le_iff_toInt_le.mp hv
  have e : (fu m - v.toInt64).toInt = (fu m).toInt - v.toInt64.toInt := ch_subL (by omega) (by omega)
  refine ch_uLAll (P := fun x => 0 ≤ x.toInt ∧ x.toInt ≤ 200000 * ((k + 5 : Nat) : Int)) (fun j => ?_) ?_
  · have := h j; omega
  · show 0 ≤ (fu m - v.toInt64).toInt ∧ (fu m - v.toInt64).toInt ≤ _
    omega
theorem ch_PrQ {i : Nat} {v : Int32} (h : ch_Pr cu se) (hv : ch_pr v) : ch_Pr (upd cu i v) se := by
  intro j hj
  refine ⟨?_, (h j hj).2⟩
  by_cases q : j = i
  · rw [q, ch_us]; exact hv
  · rw [ch_un q]; exact (h j hj).1
theorem ch_v0 : vp_nar .boolean 0 = 0 := by decide
theorem ch_v1 : vp_nar .boolean 1 = 1 := by decide
end CHF
end
section
section CHG
/-! H: getMargin, withdraw, trade -/
theorem ch_PoU {M : Nat} {st ps : Nat → Int32} {s : Nat} {x : Int32} (hM : M ≤ 8) (h : ch_Po M st ps) (hx : ch_ab 10000 x) : ch_Po M st (upd ps s x) := by
  have b := ch_pbB (st := st) hM
  exact ch_uAll (P := ch_ab (ch_pb st M)) h (ch_abM hx b.1)
theorem ch_wadd {x y : Int32} (h : -2147483648 ≤ x.toInt + y.toInt) (h' : x.toInt + y.toInt < 2147483648) : x.toInt64 + y.toInt64 = (x + y).toInt64 := by
  rw [ch_Li, ch_Li, ch_Li, ch_Ladd, ch_addI h h']
theorem ch_wsub {x y : Int32} (h : -2147483648 ≤ x.toInt - y.toInt) (h' : x.toInt - y.toInt < 2147483648) : x.toInt64 - y.toInt64 = (x - y).toInt64 := by
  rw [ch_Li, ch_Li, ch_Li, ch_Lsub, ch_subI h h']
theorem ch_lim1 (a : Int32) : (10000 : Int64) < a.toInt64 ↔ 10000 < a := by
  rw [show (10000 : Int64) = (10000 : Int32).toInt64 from by decide]; exact Int32.toInt64_lt
theorem ch_lim2 (a : Int32) : (-10000 : Int64) ≤ a.toInt64 ↔ ¬ a < -10000 := by
  rw [show (-10000 : Int64) = (-10000 : Int32).toInt64 from by decide, Int32.toInt64_le]; exact Int32.not_lt.symm
theorem ch_limB {a : Int32} (h1 : ¬ a < -10000) (h2 : ¬ 10000 < a) : ch_ab 10000 a := by
  rw [Int32.lt_iff_toInt_lt] at h1 h2
  have c1 : (-10000 : Int32).toInt = -10000 := by decide
  have c2 : (10000 : Int32).toInt = 10000 := by decide
  exact ⟨by omega, by omega⟩
theorem ch_dif {x y : Int32} (hx : ch_pr x) (hy : ch_pr y) : (x - y).toInt = x.toInt - y.toInt ∧ ch_ab 100000 (x - y) := by
  have a := hx.1; have b := hx.2; have c := hy.1; have d := hy.2
  have e : (x - y).toInt = x.toInt - y.toInt := ch_subI (by omega) (by omega)
  refine ⟨e, ?_⟩
  unfold ch_ab
  omega
theorem ch_aLmul {x y : Int32} {A B C : Int} (hx : ch_ab A x) (hy : ch_ab B y) (hC : A * B ≤ C) (hC' : C < 9223372036854775808) : ch_aL C (x.toInt64 * y.toInt64) := by
  have a := ch_absmul hx.1 hx.2 hy.1 hy.2
  have e : (x.toInt64 * y.toInt64).toInt = x.toInt * y.toInt := by
    rw [ch_mulL] <;> rw [Int32.toInt_toInt64, Int32.toInt_toInt64] <;> omega
  unfold ch_aL
  rw [e]
  omega
end CHG
end
section
section CHH
/-! I: settle, callMargins, declareDefault -/
variable {M N R : Nat} {H : Int64} {fd : Int32} {st : Nat → Int32} {ca fu mc : Nat → Int64} {hb ba : Nat → Int32} {bb : Nat → Int64} {ps cu se : Nat → Int32} {wf pa pb : Nat → Int64}
def ch_vm (ps cu se : Nat → Int32) (m : Nat) : Nat → Int64
  | 0 => 0
  | i + 1 => ch_vm ps cu se m i + (ps (m * 4 + i)).toInt64 * (cu i - se i).toInt64
def ch_cs (ps cu se : Nat → Int32) (N : Nat) (ca : Nat → Int64) : Nat → Nat → Int64
  | 0 => ca
  | m + 1 => vp_updL (ch_cs ps cu se N ca m) m (ch_cs ps cu se N ca m m + ch_vm ps cu se m N)
def ch_sl (cu se : Nat → Int32) : Nat → Nat → Int32
  | 0 => se
  | i + 1 => upd (ch_sl cu se i) i (cu i)
theorem ch_csE : ∀ n j, ch_cs ps cu se N ca n j = if j < n then ca j + ch_vm ps cu se j N else ca j := by
  intro n
  induction n with
  | zero => intro j; rw [if_neg (Nat.not_lt_zero _)]; rfl
  | succ n ih =>
    intro j
    show vp_updL (ch_cs ps cu se N ca n) n (ch_cs ps cu se N ca n n + ch_vm ps cu se n N) j = _
    by_cases q : j = n
    · rw [q, ch_uLs, ih, if_neg (Nat.lt_irrefl n), if_pos (Nat.lt_succ_self n)]
    · rw [ch_uLn q, ih]
      by_cases z : j < n
      · rw [if_pos z, if_pos (by omega)]
      · rw [if_neg z, if_neg (by omega)]
theorem ch_slE : ∀ n j, ch_sl cu se n j = if j < n then cu j else se j := by
  intro n
  induction n with
  | zero => intro j; rw [if_neg (Nat.not_lt_zero _)]; rfl
  | succ n ih =>
    intro j
    show upd (ch_sl cu se n) n (cu n) j = _
    by_cases q : j = n
    · rw [q, ch_us, if_pos (Nat.lt_succ_self n)]
    · rw [ch_un q, ih]
      by_cases z : j < n
      · rw [if_pos z, if_pos (by omega)]
      · rw [if_neg z, if_neg (by omega)]
theorem ch_vmB {m : Nat} (hM : M ≤ 8) (ho : ch_Po M st ps) (hr : ch_Pr cu se) : ∀ n : Nat, n ≤ 4 → ch_aL (256000000000 * (n : Int)) (ch_vm ps cu se m n) := by
  intro n
  induction n with
  | zero =>
    intro _
    have : (0 : Int64).toInt = 0 := by decide
    show ch_aL _ (0 : Int64)
    unfold ch_aL; rw [this]; omega
  | succ n ih =>
    intro hn
    have b := ch_pbB (st := st) hM
    have d := ch_dif (hr n (by omega)).1 (hr n (by omega)).2
    have c : ch_aL 256000000000 ((ps (m * 4 + n)).toInt64 * (cu n - se n).toInt64) := ch_aLmul (ch_abM (ho (m * 4 + n)) b.2) d.2 (by omega) (by omega)
    exact ch_aLM (ch_aLadd (ih (by omega)) c (by omega)) (by omega)
theorem ch_xVM {post : Int64 → Prop} {m : Nat} (hm : m < 8) (hN : N ≤ 4) (hp : post (ch_vm ps cu se m N)) : wpX_variationMargin post ((nI M), (nI N), (nI R), H, fd, st, ca, fu, mc, hb, ba, ps, cu, se, wf, pa) (nI m) := by
  have L : ∀ n i, i + n = N → wX_variationMargin_5 post (nI m) (nI M) (nI N) (nI R) H fd st ca fu mc hb ba ps cu se wf pa (n + 1) (ch_vm ps cu se m i) (nI i) := by
    intro n
    induction n with
    | zero =>
      intro i hi
      obtain rfl : i = N := by omega
      exact br_t (Int32.le_refl _) hp
    | succ n ih =>
      intro i hi
      have i4 : vp_in (nI i) 4 := vp_in_nI (by omega) (by omega)
      exact br_f (nI_ge (by omega) (by omega)) (ch_xSlot ⟨vp_in_nI (by omega) (by omega), i4, i4, nm_r (by rw [nI_clamp (by omega), nI_clamp (by omega)]; rfl) (nm_r (nI_1 i) (ih (i + 1) (by omega)))⟩)
  exact ⟨N + 1, L N 0 (by omega)⟩
theorem ch_xS2 {post : Int32 → St2 → Prop} (hN : N ≤ 4) (hp : post 1 ((nI M), (nI N), (nI R), H, fd, st, ca, fu, mc, hb, ba, ps, cu, ch_sl cu se N, wf, pa)) : ∀ n i, i + n = N → wX_settle_41 post (nI M) (nI N) (nI R) H fd (n + 1) (nI i) st ca fu mc hb ba ps cu (ch_sl cu se i) wf pa := by
  intro n
  induction n with
  | zero =>
    intro i hi
    obtain rfl : i = N := by omega
    exact br_t (Int32.le_refl _) hp
  | succ n ih =>
    intro i hi
    have i4 : vp_in (nI i) 4 := vp_in_nI (by omega) (by omega)
    exact br_f (nI_ge (by omega) (by omega)) ⟨i4, i4, nm_r (by rw [nI_clamp (by omega)]; rfl) (nm_r (nI_1 i) (ih (i + 1) (by omega)))⟩
theorem ch_xS1 {post : Int32 → St2 → Prop} (hM : M ≤ 8) (hN : N ≤ 4) (hp : ∃ n, wX_settle_41 post (nI M) (nI N) (nI R) H fd n 0 st (ch_cs ps cu se N ca M) fu mc hb ba ps cu se wf pa) : ∀ n m, m + n = M → wX_settle_11 post (nI M) (nI N) (nI R) H fd (n + 1) (nI m) st (ch_cs ps cu se N ca m) fu mc hb ba ps cu se wf pa := by
  intro n
  induction n with
  | zero =>
    intro m hm
    obtain rfl : m = M := by omega
    exact br_t (Int32.le_refl _) hp
  | succ n ih =>
    intro m hm
    have i8 : vp_in (nI m) 8 := vp_in_nI (by omega) (by omega)
    exact br_f (nI_ge (by omega) (by omega)) ⟨i8, ch_xVM (by omega) hN ⟨i8, nm_r (by rw [nI_clamp (by omega)]; rfl) (nm_r (nI_1 m) (ih (m + 1) (by omega)))⟩⟩
/-! callMargins -/
def ch_sf (st : Nat → Int32) (ca : Nat → Int64) (ps se : Nat → Int32) (N R m : Nat) : Int64 := if st m = 0 then (if ch_L (ch_im (ch_p ps se R m) N) - ca m ≤ 0 then 0 else ch_L (ch_im (ch_p ps se R m) N) - ca m) else 0
def ch_ms (s : Nat → Int64) (mc : Nat → Int64) : Nat → Nat → Int64
  | 0 => mc
  | m + 1 => vp_updL (ch_ms s mc m) m (s m)
def ch_ct (s : Nat → Int64) : Nat → Int32
  | 0 => 0
  | m + 1 => if s m ≤ 0 then ch_ct s m else ch_ct s m + 1
theorem ch_xSF {post : Int64 → Prop} {m : Nat} (hm : m < 8) (hN : N ≤ 4) (hR : 1 ≤ R ∧ R ≤ 50) (hr : ch_Pr cu se) (h : post (ch_sf st ca ps se N R m)) : wpX_shortfall post ((nI M), (nI N), (nI R), H, fd, st, ca, fu, mc, hb, ba, ps, cu, se, wf, pa) (nI m) := by
  have i8 : vp_in (nI m) 8 := vp_in_nI (by omega) (by omega)
  have c8 : (nI m).toNatClampNeg = m := nI_clamp (by omega)
  unfold ch_sf at h
  by_cases s0 : st m = 0
  · rw [if_pos s0] at h
    refine ⟨i8, br_t (by rw [c8]; exact s0) (ch_xIM hm hN hR hr ⟨i8, nm_r (by rw [c8]) ?_⟩)⟩
    generalize ch_L (ch_im (ch_p ps se R m) N) - ca m = c at h
    unfold wpX_greater
    by_cases q : c ≤ 0
    · rw [if_pos q] at h
      by_cases z : (0 : Int64) ≤ c
      · have e : c = 0 := Int64.le_antisymm q z
        exact br_t z (by rw [e]; exact h)
      · exact br_f z h
    · rw [if_neg q] at h
      exact br_t (Int64.le_of_lt (Int64.not_le.mp q)) h
  · rw [if_neg s0] at h
    exact ⟨i8, br_f (by rw [c8]; exact s0) h⟩
theorem ch_xCM {post : Int32 → St2 → Prop} (hM : M ≤ 8) (hN : N ≤ 4) (hR : 1 ≤ R ∧ R ≤ 50) (hr : ch_Pr cu se) (hp : post (ch_ct (ch_sf st ca ps se N R) M) ((nI M), (nI N), (nI R), H, fd, st, ca, fu, ch_ms (ch_sf st ca ps se N R) mc M, hb, ba, ps, cu, se, wf, pa)) :
    ∀ n m, m + n = M → wX_callMargins_13 post (nI M) (nI N) (nI R) H fd (n + 1) (ch_ct (ch_sf st ca ps se N R) m) (nI m) st ca fu (ch_ms (ch_sf st ca ps se N R) mc m) hb ba ps cu se wf pa := by
  intro n
  induction n with
  | zero =>
    intro m hm
    obtain rfl : m = M := by omega
    exact br_t (Int32.le_refl _) hp
  | succ n ih =>
    intro m hm
    have i8 : vp_in (nI m) 8 := vp_in_nI (by omega) (by omega)
    have c8 : (nI m).toNatClampNeg = m := nI_clamp (by omega)
    have e : ch_ms (ch_sf st ca ps se N R) mc (m + 1) (nI m).toNatClampNeg = ch_sf st ca ps se N R m := by rw [c8]; exact ch_uLs
    have z := ih (m + 1) (by omega)
    refine br_f (nI_ge (by omega) (by omega)) (ch_xSF (by omega) hN hR hr ⟨i8, nm_r (e' := ch_ms (ch_sf st ca ps se N R) mc (m + 1)) (by rw [c8]; rfl) ⟨i8, ?_⟩⟩)
    by_cases q : ch_sf st ca ps se N R m ≤ 0
    · rw [show ch_ct (ch_sf st ca ps se N R) (m + 1) = ch_ct (ch_sf st ca ps se N R) m from if_pos q] at z
      exact br_t (by rw [e]; exact q) (nm_r (nI_1 m) z)
    · rw [show ch_ct (ch_sf st ca ps se N R) (m + 1) = ch_ct (ch_sf st ca ps se N R) m + 1 from if_neg q] at z
      exact br_f (by rw [e]; exact q) (nm_e (nm_r (nI_1 m) z))
/-! declareDefault -/
theorem ch_xSC {post : Int32 → Prop} (hM : M ≤ 8) (hp : post (nI (ch_ca st M))) : wpX_survivorCount post ((nI M), (nI N), (nI R), H, fd, st, ca, fu, mc, hb, ba, ps, cu, se, wf, pa) := by
  have L : ∀ n m, m + n = M → wX_survivorCount_4 post (nI M) (nI N) (nI R) H fd st ca fu mc hb ba ps cu se wf pa (n + 1) (nI (ch_ca st m)) (nI m) := by
    intro n
    induction n with
    | zero =>
      intro m hm
      obtain rfl : m = M := by omega
      exact br_t (Int32.le_refl _) hp
    | succ n ih =>
      intro m hm
      have i8 : vp_in (nI m) 8 := vp_in_nI (by omega) (by omega)
      have c8 : (nI m).toNatClampNeg = m := nI_clamp (by omega)
      have z := ih (m + 1) (by omega)
      refine br_f (nI_ge (by omega) (by omega)) ⟨i8, ?_⟩
      by_cases s0 : st m = 0
      · rw [show ch_ca st (m + 1) = ch_ca st m + 1 from congrArg (ch_ca st m + ·) (if_pos s0)] at z
        exact br_t (by rw [c8]; exact s0) (nm_r (nI_1 _) (nm_r (nI_1 m) z))
      · rw [show ch_ca st (m + 1) = ch_ca st m from congrArg (ch_ca st m + ·) (if_neg s0)] at z
        exact br_f (by rw [c8]; exact s0) (nm_r (nI_1 m) z)
  exact ⟨M + 1, L M 0 (by omega)⟩
theorem ch_xCB {post : St2 → Prop} (hM : M ≤ 8) (h : ∀ j, M ≤ j → hb j = 0) (hp : post ((nI M), (nI N), (nI R), H, fd, st, ca, fu, mc, (fun _ => 0), ba, ps, cu, se, wf, pa)) : wpX_clearBids post ((nI M), (nI N), (nI R), H, fd, st, ca, fu, mc, hb, ba, ps, cu, se, wf, pa) := by
  have L : ∀ n m (hb : Nat → Int32), m + n = M → (∀ j, M ≤ j → hb j = 0) → (∀ j, j < m → hb j = 0) → wX_clearBids_2 post (nI M) (nI N) (nI R) H fd (n + 1) (nI m) st ca fu mc hb ba ps cu se wf pa := by
    intro n
    induction n with
    | zero =>
      intro m hb hm h1 h2
      obtain rfl : m = M := by omega
      obtain rfl : hb = fun _ => 0 := by
        funext j
        by_cases q : j < m
        · exact h2 j q
        · exact h1 j (by omega)
      exact br_t (Int32.le_refl _) hp
    | succ n ih =>
      intro m hb hm h1 h2
      have i8 : vp_in (nI m) 8 := vp_in_nI (by omega) (by omega)
      refine br_f (nI_ge (by omega) (by omega)) ⟨i8, nm_r (by rw [nI_clamp (by omega)]) (nm_r (nI_1 m) (ih (m + 1) _ (by omega) ?_ ?_))⟩
      · intro j hj; rw [ch_un (by omega)]; exact h1 j hj
      · intro j hj
        by_cases q : j = m
        · rw [q, ch_us]
        · rw [ch_un q]; exact h2 j (by omega)
  exact ⟨M + 1, L M 0 hb (by omega) h (fun j hj => absurd hj (Nat.not_lt_zero _))⟩
end CHH
end
section
section CHI
/-! J: funds, shares, splits -/
variable {M N R : Nat} {H : Int64} {fd : Int32} {st : Nat → Int32} {ca fu mc : Nat → Int64} {hb ba : Nat → Int32} {bb : Nat → Int64} {ps cu se : Nat → Int32} {wf pa pb : Nat → Int64}
def ch_fn (fu : Nat → Int64) (j : Nat) : Nat := (fu j).toInt.toNat
theorem ch_fnE {k : Nat} (h : ch_Fd k fu) : ∀ j, fu j = lN (ch_fn fu j) := by
  intro j
  have a := h j
  have b := (fu j).toInt_lt
  apply Int64.toInt_inj.mp
  unfold ch_fn
  rw [pk_lT (by omega)]
  omega
theorem ch_fnB {k : Nat} (h : ch_Fd k fu) : ∀ j, ch_fn fu j ≤ 200000 * k := by
  intro j
  have a := h j
  unfold ch_fn
  omega
theorem ch_xFs {post : Int64 → Prop} {f : Nat → Nat} (hM : M ≤ 8) (hf : ∀ j, fu j = lN (f j)) (hp : post (lN (ch_fs st f M))) : wpX_survivorFunds post ((nI M), (nI N), (nI R), H, fd, st, ca, fu, mc, hb, ba, ps, cu, se, wf, pa) := by
  have L : ∀ n m, m + n = M → wX_survivorFunds_4 post (nI M) (nI N) (nI R) H fd st ca fu mc hb ba ps cu se wf pa (n + 1) (lN (ch_fs st f m)) (nI m) := by
    intro n
    induction n with
    | zero =>
      intro m hm
      obtain rfl : m = M := by omega
      exact br_t (Int32.le_refl _) hp
    | succ n ih =>
      intro m hm
      have i8 : vp_in (nI m) 8 := vp_in_nI (by omega) (by omega)
      have c8 : (nI m).toNatClampNeg = m := nI_clamp (by omega)
      have z := ih (m + 1) (by omega)
      refine br_f (nI_ge (by omega) (by omega)) ⟨i8, ?_⟩
      by_cases s0 : st m = 0
      · rw [show ch_fs st f (m + 1) = ch_fs st f m + f m from congrArg (ch_fs st f m + ·) (if_pos s0)] at z
        exact br_t (by rw [c8]; exact s0) ⟨i8, nm_r (by rw [c8, hf, lN_add]) (nm_r (nI_1 m) z)⟩
      · rw [show ch_fs st f (m + 1) = ch_fs st f m from congrArg (ch_fs st f m + ·) (if_neg s0)] at z
        exact br_f (by rw [c8]; exact s0) (nm_r (nI_1 m) z)
  exact ⟨M + 1, L M 0 (by omega)⟩
theorem ch_bit {A n : Nat} (hA : A < 4611686018427387904) (hn : n < 63) : (lN A >>> ((nI n).toInt64 &&& 63)) &&& 1 = lN (A / 2 ^ n % 2) := by
  have h1 : A / 2 ^ n ≤ A := Nat.div_le_self _ _
  have e : ((lN n).toBitVec.smod 64).toNat = n := by
    rw [wb_tb, wb_sm n (by omega), BitVec.toNat_ofNat, Nat.mod_eq_of_lt (by omega)]
  rw [wb_c n (by omega), pf_shr e hA, wb_a1 (by omega)]
theorem ch_xSh {post : Int64 → Prop} {A f F : Nat} (hA : A < 4611686018427387904) (hf : f ≤ F) (hF : 0 < F) (hF' : F < 2305843009213693952) (hp : post (lN (A * f / F))) : wpX_share post () (lN A) (lN f) (lN F) := by
  have L : ∀ n q r, n ≤ 63 → q * F + r = (A / 2 ^ n) * f → r < F → wX_share_10 post (lN A) (lN f) (lN F) (n + 1) (lN q) (lN r) (ch_I ((n : Int) - 1)) := by
    intro n
    induction n with
    | zero =>
      intro q r _ hq hr
      rw [Nat.pow_zero, Nat.div_one] at hq
      rw [← ch_shEnd hq hr] at hp
      exact br_t (by decide) hp
    | succ n ih =>
      intro q r hn hq hr
      have en : ch_I (((n + 1 : Nat) : Int) - 1) = nI n := by
        rw [ch_In, show ((n + 1 : Nat) : Int) - 1 = (n : Int) by omega]
      have em : nI n + (-1) = ch_I ((n : Int) - 1) := by
        rw [ch_In, show (-1 : Int32) = ch_I (-1) from by decide, ch_Iadd]; rfl
      have ea : A / 2 ^ n = 2 * (A / 2 ^ (n + 1)) + A / 2 ^ n % 2 := by
        have : A / 2 ^ (n + 1) = A / 2 ^ n / 2 := by rw [Nat.pow_succ, Nat.div_div_eq_div_mul]
        rw [this]; omega
      have bb := ch_bit (A := A) (n := n) hA (by omega)
      have b2 : A / 2 ^ n % 2 = 0 ∨ A / 2 ^ n % 2 = 1 := by omega
      have S := ch_shStep hf hq hr b2
      rw [← ea] at S
      rw [en]
      have tail : ∀ q1 r1 : Nat, r1 < F → (∀ q2 r2 : Nat, (A / 2 ^ n % 2 = 0 → q2 = q1 ∧ r2 = r1) → (A / 2 ^ n % 2 = 1 → F ≤ r1 + f → q2 = q1 + 1 ∧ r2 = r1 + f - F) → (A / 2 ^ n % 2 = 1 → ¬ F ≤ r1 + f → q2 = q1 ∧ r2 = r1 + f) → q2 * F + r2 = (A / 2 ^ n) * f ∧ r2 < F) →
          wX_share_52 post (wX_share_10 post (lN A) (lN f) (lN F) (n + 1)) (lN A) (lN f) (lN F) (lN q1) (lN r1) (nI n) := by
        intro q1 r1 hr1 T
        unfold wX_share_52
        rw [bb]
        rcases b2 with b | b
        · rw [b]
          have t := T q1 r1 (fun _ => ⟨rfl, rfl⟩) (fun z => by omega) (fun z => by omega)
          exact br_f (by decide) (nm_r em (ih q1 r1 (by omega) t.1 t.2))
        · rw [b]
          refine br_t (by decide) (nm_r (lN_add r1 f) ?_)
          have c : lN (r1 + f) < lN F ↔ r1 + f < F := pk_lLT (by omega) (by omega)
          by_cases z : r1 + f < F
          · have t := T q1 (r1 + f) (fun y => by omega) (fun _ y => by omega) (fun _ _ => ⟨rfl, rfl⟩)
            exact br_t (c.mpr z) (nm_r em (ih q1 (r1 + f) (by omega) t.1 t.2))
          · have t := T (q1 + 1) (r1 + f - F) (fun y => by omega) (fun _ _ => ⟨rfl, rfl⟩) (fun _ y => by omega)
            exact br_f (fun y => z (c.mp y)) (nm_r (lN_sub (by omega)) (nm_r (lN_1 q1) (nm_r em (ih (q1 + 1) (r1 + f - F) (by omega) t.1 t.2))))
      refine br_f (nI_pos (by omega)) (nm_r (e' := lN (2 * q)) ?_ (nm_r (e' := lN (2 * r)) ?_ ?_))
      · rw [show (2 : Int64) = lN 2 from rfl, lN_mul, Nat.mul_comm]
      · rw [show (2 : Int64) = lN 2 from rfl, lN_mul, Nat.mul_comm]
      · have c : lN (2 * r) < lN F ↔ 2 * r < F := pk_lLT (by omega) (by omega)
        by_cases z : 2 * r < F
        · exact br_t (c.mpr z) (tail (2 * q) (2 * r) z (fun q2 r2 => S (2 * q) (2 * r) q2 r2 (fun y => by omega) (fun _ => ⟨rfl, rfl⟩)))
        · exact br_f (fun y => z (c.mp y)) (nm_r (lN_sub (by omega)) (nm_r (lN_1 (2 * q)) (tail (2 * q + 1) (2 * r - F) (by omega) (fun q2 r2 => S (2 * q + 1) (2 * r - F) q2 r2 (fun _ => ⟨rfl, rfl⟩) (fun y => by omega)))))
  refine ⟨64, ?_⟩
  refine L 63 0 0 (by omega) ?_ hF
  rw [Nat.div_eq_of_lt (by omega), Nat.zero_mul, Nat.zero_mul]
theorem ch_lpos {l : Int} (h : -9000000000000000000 ≤ l ∧ l ≤ 9000000000000000000) : ch_L l ≤ 0 ↔ l ≤ 0 := by
  rw [show (0 : Int64) = ch_L 0 from by decide]
  exact ch_Lle (by omega) (by omega) (by omega) (by omega)
theorem ch_lN0 {n : Nat} (h : n < 9223372036854775808) : lN n ≤ 0 ↔ n = 0 := by
  rw [show (0 : Int64) = lN 0 from rfl, pk_lLE h (by omega)]; omega
/-- the second pass of a split: what its loop's head knows -/
def ch_P2 (st : Nat → Int32) (f : Nat → Nat) (A F M m : Nat) (l : Int) (pa : Nat → Int64) : Prop :=
  (∀ j, j < M → pa j = lN (if j < m then ch_g st f A F M j else ch_g0 st f A F j)) ∧ (0 < l → l = (A : Int) - ch_gs st f A F M - ch_el st f m) ∧ (l ≤ 0 → A ≤ ch_gs st f A F M + ch_el st f m) ∧ l ≤ A ∧ -(9 * (A : Int)) - 8 ≤ l
theorem ch_P2N {f : Nat → Nat} {A F m : Nat} {l : Int} (h : ch_P2 st f A F M m l pa) (hn : ¬ ((st m = 0 ∧ 0 < f m) ∧ 0 < l)) : ch_P2 st f A F M (m + 1) l pa := by
  obtain ⟨h1, h2, h3, h4, h5⟩ := h
  have em := ch_elMono st f (show m ≤ m + 1 by omega)
  refine ⟨fun j hj => ?_, fun z => ?_, fun z => ?_, h4, h5⟩
  · rw [h1 j hj]
    by_cases q : j = m
    · subst q
      rw [if_neg (Nat.lt_irrefl j), if_pos (Nat.lt_succ_self j)]
      have : ¬ ((st j = 0 ∧ 0 < f j) ∧ ch_el st f j + ch_gs st f A F M < A) := by
        intro y
        by_cases z : 0 < l
        · exact hn ⟨y.1, z⟩
        · have := h3 (by omega); omega
      unfold ch_g
      rw [if_neg this, Nat.add_zero]
    · by_cases z : j < m
      · rw [if_pos z, if_pos (by omega)]
      · rw [if_neg z, if_neg (by omega)]
  · have : ch_el st f (m + 1) = ch_el st f m := by
      have : ¬ (st m = 0 ∧ 0 < f m) := fun y => hn ⟨y, z⟩
      show ch_el st f m + (if st m = 0 ∧ 0 < f m then 1 else 0) = _
      rw [if_neg this]; rfl
    rw [this]; exact h2 z
  · have := h3 z; omega
theorem ch_P2Y {f : Nat → Nat} {A F m : Nat} {l : Int} (hm : m < M) (h : ch_P2 st f A F M m l pa) (hs : st m = 0) (hf : 0 < f m) (hl : 0 < l) : ch_P2 st f A F M (m + 1) (l - 1) (vp_updL pa m (pa m + 1)) := by
  obtain ⟨h1, h2, h3, h4, h5⟩ := h
  have e : ch_el st f (m + 1) = ch_el st f m + 1 := by
    show ch_el st f m + (if st m = 0 ∧ 0 < f m then 1 else 0) = _
    rw [if_pos ⟨hs, hf⟩]
  have hl2 := h2 hl
  refine ⟨fun j hj => ?_, fun z => ?_, fun z => ?_, by omega, by omega⟩
  · by_cases q : j = m
    · subst q
      rw [ch_uLs, if_pos (Nat.lt_succ_self j), h1 j hj, if_neg (Nat.lt_irrefl j), lN_1]
      unfold ch_g
      rw [if_pos ⟨⟨hs, hf⟩, by omega⟩]
    · rw [ch_uLn q, h1 j hj]
      by_cases z : j < m
      · rw [if_pos z, if_pos (by omega)]
      · rw [if_neg z, if_neg (by omega)]
  · rw [e]; omega
  · rw [e]; omega
theorem ch_P2E {f : Nat → Nat} {A F m : Nat} {l : Int} (h : ch_P2 st f A F M m l pa) (hl : M ≤ m ∨ l ≤ 0) : ∀ j, j < M → pa j = lN (ch_g st f A F M j) := by
  obtain ⟨h1, h2, h3, h4, h5⟩ := h
  intro j hj
  rw [h1 j hj]
  by_cases z : j < m
  · rw [if_pos z]
  · rw [if_neg z]
    have l0 : l ≤ 0 := by rcases hl with q | q <;> omega
    have := h3 l0
    have em := ch_elMono st f (show m ≤ j by omega)
    unfold ch_g
    rw [if_neg (fun y => by have := y.2; omega), Nat.add_zero]
theorem ch_xSp {post : St2 → Prop} {f : Nat → Nat} {A F : Nat} (hM : M ≤ 8) (hf : ∀ j, fu j = lN (f j)) (hA : A < 4294967296) (hF : 0 < F) (hF' : F < 4294967296) (hfF : ∀ j, j < M → st j = 0 → f j ≤ F) (hfB : ∀ j, f j < 536870912)
    (hp : ∀ pa', (∀ j, j < M → pa' j = lN (ch_g st f A F M j)) → post ((nI M), (nI N), (nI R), H, fd, st, ca, fu, mc, hb, ba, ps, cu, se, wf, pa')) : wpX_splitProRata post ((nI M), (nI N), (nI R), H, fd, st, ca, fu, mc, hb, ba, ps, cu, se, wf, pa) (lN A) (lN F) := by
  have g0A : ∀ j, j < M → ch_g0 st f A F j ≤ A := fun j hj => ch_g0A (hfF j hj)
  have gsB : ∀ n, n ≤ M → ch_gs st f A F n ≤ n * A := by
    intro n
    induction n with
    | zero => intro _; show 0 ≤ _; omega
    | succ n ih =>
      intro hn
      have a := ih (by omega)
      have b := g0A n (by omega)
      show ch_gs st f A F n + ch_g0 st f A F n ≤ (n + 1) * A
      rw [Nat.succ_mul]; omega
  have gM : ch_gs st f A F M ≤ 8 * A := Nat.le_trans (gsB M (Nat.le_refl _)) (Nat.mul_le_mul_right A hM)
  have L2 : ∀ n m l (pa : Nat → Int64), m + n = M → ch_P2 st f A F M m l pa → wX_splitProRata_73 post (nI M) (nI N) (nI R) H fd (n + 1) (ch_L l) (nI m) st ca fu mc hb ba ps cu se wf pa := by
    intro n
    induction n with
    | zero =>
      intro m l pa hm h
      exact br_t (nI_le (by omega) (by omega)) (hp pa (ch_P2E h (Or.inl (by omega))))
    | succ n ih =>
      intro m l pa hm h
      have i8 : vp_in (nI m) 8 := vp_in_nI (by omega) (by omega)
      have c8 : (nI m).toNatClampNeg = m := nI_clamp (by omega)
      have h5 := h.2.2.2
      have lp := ch_lpos (l := l) (by omega)
      refine br_f (nI_ge (by omega) (by omega)) ?_
      by_cases q : l ≤ 0
      · exact br_t (lp.mpr q) (hp pa (ch_P2E h (Or.inr q)))
      · refine br_f (fun z => q (lp.mp z)) ⟨i8, ?_⟩
        by_cases s0 : st m = 0
        · refine br_t (by rw [c8]; exact s0) ⟨i8, ?_⟩
          have fz : fu (nI m).toNatClampNeg ≤ 0 ↔ f m = 0 := by rw [c8, hf]; exact ch_lN0 (by have := hfB m; omega)
          by_cases f0 : f m = 0
          · exact br_t (fz.mpr f0) (nm_r (nI_1 m) (ih (m + 1) l pa (by omega) (ch_P2N h (fun y => by omega))))
          · exact br_f (fun z => f0 (fz.mp z)) ⟨i8, i8, nm_r (by rw [c8]) (nm_r (e' := ch_L (l - 1)) (by rw [show (1 : Int64) = ch_L 1 from by decide, ch_Lsub]) (nm_r (nI_1 m) (ih (m + 1) (l - 1) _ (by omega) (ch_P2Y (by omega) h s0 (by omega) (by omega)))))⟩
        · exact br_f (by rw [c8]; exact s0) (nm_r (nI_1 m) (ih (m + 1) l pa (by omega) (ch_P2N h (fun y => s0 y.1.1))))
  have L1 : ∀ n m (pa : Nat → Int64), m + n = M → (∀ j, j < m → pa j = lN (ch_g0 st f A F j)) → wX_splitProRata_6 post (lN A) (lN F) (nI M) (nI N) (nI R) H fd (n + 1) (ch_L ((A : Int) - ch_gs st f A F m)) (nI m) st ca fu mc hb ba ps cu se wf pa := by
    intro n
    induction n with
    | zero =>
      intro m pa hm h
      obtain rfl : m = M := by omega
      refine br_t (Int32.le_refl _) ⟨m + 1, ?_⟩
      refine L2 m 0 _ pa (by omega) ⟨fun j hj => ?_, fun _ => ?_, fun z => ?_, by omega, by omega⟩
      · rw [if_neg (Nat.not_lt_zero j)]; exact h j hj
      · show _ = (A : Int) - ch_gs st f A F m - ((0 : Nat) : Int); omega
      · show A ≤ ch_gs st f A F m + 0; omega
    | succ n ih =>
      intro m pa hm h
      have i8 : vp_in (nI m) 8 := vp_in_nI (by omega) (by omega)
      have c8 : (nI m).toNatClampNeg = m := nI_clamp (by omega)
      refine br_f (nI_ge (by omega) (by omega)) ⟨i8, nm_r (by rw [c8]) ⟨i8, ?_⟩⟩
      by_cases s0 : st m = 0
      · have e0 : ch_g0 st f A F m = A * f m / F := if_pos s0
        refine br_t (by rw [c8]; exact s0) ⟨i8, ?_⟩
        rw [c8, hf m]
        refine ch_xSh (by omega) (hfF m (by omega) s0) hF (by omega) ⟨i8, nm_r ch_uuL ⟨i8, nm_r (e' := ch_L ((A : Int) - ch_gs st f A F (m + 1))) ?_ (nm_r (nI_1 m) (ih (m + 1) _ (by omega) ?_))⟩⟩
        · rw [ch_uLs, ch_Ln, ch_Lsub, ← e0]
          congr 1
          show _ = (A : Int) - ((ch_gs st f A F m + ch_g0 st f A F m : Nat) : Int)
          omega
        · intro j hj
          by_cases q : j = m
          · rw [q, ch_uLs, e0]
          · rw [ch_uLn q]; exact h j (by omega)
      · have e0 : ch_g0 st f A F m = 0 := if_neg s0
        have e1 : ch_gs st f A F (m + 1) = ch_gs st f A F m := by
          show ch_gs st f A F m + ch_g0 st f A F m = _
          rw [e0]; rfl
        have z := ih (m + 1) (vp_updL pa m 0) (by omega) (fun j hj => by
          by_cases q : j = m
          · rw [q, ch_uLs, e0]; rfl
          · rw [ch_uLn q]; exact h j (by omega))
        rw [e1] at z
        exact br_f (by rw [c8]; exact s0) (nm_r (nI_1 m) z)
  refine ⟨M + 1, ?_⟩
  have z := L1 M 0 pa (by omega) (fun j hj => absurd hj (Nat.not_lt_zero _))
  rw [show ch_L ((A : Int) - ch_gs st f A F 0) = lN A from by rw [ch_Ln]; exact congrArg ch_L (Int.sub_zero _)] at z
  exact z
end CHI
end
section
section CHJ
/-! K: the portfolio, sold or allocated -/
variable {M N R : Nat} {H : Int64} {fd : Int32} {st : Nat → Int32} {ca fu mc : Nat → Int64} {hb ba : Nat → Int32} {bb : Nat → Int64} {ps cu se : Nat → Int32} {wf pa pb : Nat → Int64}
theorem ch_xGv {post : St2 → Prop} {x : Int64} (hM : M ≤ 8) (hp : ∀ pa', (∀ j, j < M → pa' j = if ch_fa st M = some j then x else 0) → post ((nI M), (nI N), (nI R), H, fd, st, ca, fu, mc, hb, ba, ps, cu, se, wf, pa')) : wpX_giveAllToFirstSurvivor post ((nI M), (nI N), (nI R), H, fd, st, ca, fu, mc, hb, ba, ps, cu, se, wf, pa) x := by
  have L : ∀ n m (pa : Nat → Int64), m + n = M → (∀ j, j < m → pa j = if ch_fa st m = some j then x else 0) → wX_giveAllToFirstSurvivor_5 post (nI M) (nI N) (nI R) H fd (n + 1) (if ch_fa st m = none then x else 0) (nI m) st ca fu mc hb ba ps cu se wf pa := by
    intro n
    induction n with
    | zero =>
      intro m pa hm h
      obtain rfl : m = M := by omega
      exact br_t (Int32.le_refl _) (hp pa h)
    | succ n ih =>
      intro m pa hm h
      have i8 : vp_in (nI m) 8 := vp_in_nI (by omega) (by omega)
      have c8 : (nI m).toNatClampNeg = m := nI_clamp (by omega)
      refine br_f (nI_ge (by omega) (by omega)) ⟨i8, nm_r (by rw [c8]) ⟨i8, ?_⟩⟩
      by_cases s0 : st m = 0
      · refine br_t (by rw [c8]; exact s0) ⟨i8, nm_r (by rw [c8, ch_uuL]) (nm_r (nI_1 m) ?_)⟩
        cases fa : ch_fa st m with
        | none =>
          have e : ch_fa st (m + 1) = some m := by
            unfold ch_fa; rw [fa]; exact if_pos s0
          have z := ih (m + 1) (vp_updL pa m x) (by omega) (fun j hj => by
            rw [e]
            by_cases q : j = m
            · rw [q, ch_uLs, if_pos rfl]
            · rw [ch_uLn q, h j (by omega), fa, if_neg (fun y => nomatch y), if_neg (fun y => q (Option.some.inj y).symm)])
          rw [e, if_neg (fun y => nomatch y)] at z
          rw [if_pos rfl]
          exact z
        | some t =>
          have e : ch_fa st (m + 1) = some t := by
            unfold ch_fa; rw [fa]
          have tm := (ch_faS m t fa).1
          have z := ih (m + 1) (vp_updL pa m 0) (by omega) (fun j hj => by
            rw [e]
            by_cases q : j = m
            · rw [q, ch_uLs, if_neg (fun y => by have := Option.some.inj y; omega)]
            · rw [ch_uLn q, h j (by omega), fa])
          rw [e, if_neg (fun y => nomatch y)] at z
          rw [if_neg (fun y => nomatch y)]
          exact z
      · have e : ch_fa st (m + 1) = ch_fa st m := by
          show (match ch_fa st m with | some s => some s | none => if st m = 0 then some m else none) = ch_fa st m
          cases fa : ch_fa st m with
          | none => exact if_neg s0
          | some t => rfl
        have z := ih (m + 1) (vp_updL pa m 0) (by omega) (fun j hj => by
          rw [e]
          by_cases q : j = m
          · rw [q, ch_uLs]
            by_cases y : ch_fa st m = some m
            · have := (ch_faS m m y).1; omega
            · rw [if_neg y]
          · rw [ch_uLn q, h j (by omega)])
        rw [e] at z
        exact br_f (by rw [c8]; exact s0) (nm_r (nI_1 m) z)
  exact ⟨M + 1, L M 0 pa (by omega) (fun j hj => absurd hj (Nat.not_lt_zero _))⟩
/-- what member m gets of q -/
def ch_G (st : Nat → Int32) (f : Nat → Nat) (F M : Nat) (q : Int32) (m : Nat) : Int32 :=
  if F = 0 then (if ch_fa st M = some m then q else 0) else (if 0 ≤ q then 1 else -1) * nI (ch_g st f q.toInt.natAbs F M m)
theorem ch_sgA {q : Int32} (h : ch_ab 2560000 q) : ((if 0 ≤ q then (1 : Int32) else -1) * q).toInt64 = lN q.toInt.natAbs ∧ (if 0 ≤ q then (1 : Int32) else -1) * (lN q.toInt.natAbs).toInt32 = q := by
  have a := h.1
  have b := h.2
  have z0 : (0 : Int32).toInt = 0 := by decide
  have key : ∀ x : Int32, x = ch_I x.toInt := fun x => (ch_Iof x).symm
  by_cases c : 0 ≤ q
  · have d := Int32.le_iff_toInt_le.mp c
    rw [if_pos c, Int32.one_mul, Int32.one_mul, lN_i, ch_Li, ch_Ln, ch_In, show ((q.toInt.natAbs : Nat) : Int) = q.toInt by omega]
    exact ⟨rfl, ch_Iof q⟩
  · have d : ¬ 0 ≤ q.toInt := fun z => c (Int32.le_iff_toInt_le.mpr (by omega))
    have e : (-1 : Int32) * q = ch_I (-q.toInt) := by
      rw [key q, show (-1 : Int32) = ch_I (-1) from by decide, ch_Imul, ch_IT (by omega) (by omega)]
      congr 1; omega
    rw [if_neg c, e, ch_LI (by omega) (by omega), lN_i, ch_Ln, ch_In, show ((q.toInt.natAbs : Nat) : Int) = -q.toInt by omega]
    refine ⟨rfl, ?_⟩
    rw [show (-1 : Int32) = ch_I (-1) from by decide, ch_Imul, show -1 * -q.toInt = q.toInt by omega, ch_Iof]
theorem ch_GB {f : Nat → Nat} {F : Nat} (hfF : ∀ j, j < M → st j = 0 → f j ≤ F) {B : Int} (hB : B ≤ 2560000) (q : Int32) (h : ch_ab B q) (m : Nat) (hm : m < M) : ch_ab B (ch_G st f F M q m) := by
  have a := h.1
  have b := h.2
  unfold ch_G
  split
  · split
    · exact h
    · exact ch_ab0 (by omega)
  · have g := ch_gA (st := st) (f := f) (A := q.toInt.natAbs) (F := F) hm (hfF m hm)
    have t : (nI (ch_g st f q.toInt.natAbs F M m)).toInt = (ch_g st f q.toInt.natAbs F M m : Int) := nI_toInt (by omega)
    split
    · rw [Int32.one_mul]
      exact ⟨by rw [t]; omega, by rw [t]; omega⟩
    · have e : (-1 : Int32) * nI (ch_g st f q.toInt.natAbs F M m) = ch_I (-(ch_g st f q.toInt.natAbs F M m : Int)) := by
        rw [ch_In, show (-1 : Int32) = ch_I (-1) from by decide, ch_Imul]
        congr 1; omega
      rw [e]
      exact ⟨by rw [ch_IT (by omega) (by omega)]; omega, by rw [ch_IT (by omega) (by omega)]; omega⟩
theorem ch_G0 {f : Nat → Nat} {F : Nat} (m : Nat) : ch_G st f F M 0 m = 0 := by
  unfold ch_G
  split
  · split <;> rfl
  · have : ch_g st f (0 : Int32).toInt.natAbs F M m = 0 := by
      rw [show (0 : Int32).toInt.natAbs = 0 from by decide]
      have a : ¬ ((st m = 0 ∧ 0 < f m) ∧ ch_el st f m + ch_gs st f 0 F M < 0) := fun y => Nat.not_lt_zero _ y.2
      unfold ch_g ch_g0
      rw [if_neg a, Nat.zero_mul, Nat.zero_div]
      split <;> rfl
    rw [this]
    exact Int32.mul_zero
/-- X: one column -/
theorem ch_xA75 {post : St2 → Prop} {J : Int32 → Int32 → Int32 → Int32 → Int64 → Int32 → (Nat → Int32) → (Nat → Int64) → (Nat → Int64) → (Nat → Int64) → (Nat → Int32) → (Nat → Int32) → (Nat → Int32) → (Nat → Int32) → (Nat → Int32) → (Nat → Int64) → (Nat → Int64) → Prop} {d i : Nat} {x2 : Int64} {x6 : Int32} {g : Nat → Int32} (hM : M ≤ 8) (hd : d < 8) (hi : i < 4) (hg : ∀ m, m < M → x6 * (pa m).toInt32 = g m)
    (hp : J (nI (i + 1)) (nI M) (nI N) (nI R) H fd st ca fu mc hb ba (upd (ch_al g i ps M) (d * 4 + i) 0) cu se wf pa) : ∃ n, wX_allocatePortfolio_75 post J (nI d) x2 (nI i) x6 (nI M) (nI N) (nI R) H fd n 0 st ca fu mc hb ba ps cu se wf pa := by
  have L : ∀ n m, m + n = M → wX_allocatePortfolio_75 post J (nI d) x2 (nI i) x6 (nI M) (nI N) (nI R) H fd (n + 1) (nI m) st ca fu mc hb ba (ch_al g i ps m) cu se wf pa := by
    intro n
    induction n with
    | zero =>
      intro m hm
      obtain rfl : m = M := by omega
      exact br_t (Int32.le_refl _) (ch_xSlot ⟨vp_in_nI (by omega) (by omega), nm_r (by rw [nI_clamp (by omega)]) (nm_r (nI_1 i) hp)⟩)
    | succ n ih =>
      intro m hm
      have i8 : vp_in (nI m) 8 := vp_in_nI (by omega) (by omega)
      have i32 : vp_in (nI (m * 4 + i)) 32 := vp_in_nI (by omega) (by omega)
      exact br_f (nI_ge (by omega) (by omega)) (ch_xSlot ⟨i32, i8, i32, nm_r (by rw [nI_clamp (by omega), nI_clamp (by omega), hg m (by omega)]; rfl) (nm_r (nI_1 m) (ih (m + 1) (by omega)))⟩)
  exact ⟨M + 1, L M 0 (by omega)⟩
theorem ch_xAl {post : St2 → Prop} {f : Nat → Nat} {d : Nat} {B : Int} (hM : M ≤ 8) (hN : N ≤ 4) (hd : d < 8) (hf : ∀ j, fu j = lN (f j)) (hfB : ∀ j, f j < 536870912) (hB : 0 ≤ B ∧ B ≤ 2560000) (ho : ∀ s, ch_ab B (ps s))
    (hp : ∀ pa', post ((nI M), (nI N), (nI R), H, fd, st, ca, fu, mc, hb, ba, ch_aa (ch_G st f (ch_fs st f M) M) M d ps N, cu, se, wf, pa')) : wpX_allocatePortfolio post ((nI M), (nI N), (nI R), H, fd, st, ca, fu, mc, hb, ba, ps, cu, se, wf, pa) (nI d) := by
  have hfF : ∀ j, j < M → st j = 0 → f j ≤ ch_fs st f M := fun j hj hs => ch_fsGe hj hs
  have FB : ch_fs st f M < 4294967296 := by
    have := ch_fsB (st := st) (f := f) (B := 536870911) (fun j => by have := hfB j; omega) M
    omega
  have L : ∀ n i (pa : Nat → Int64), i + n = N → wX_allocatePortfolio_8 post (nI d) (lN (ch_fs st f M)) (n + 1) (nI i) (nI M) (nI N) (nI R) H fd st ca fu mc hb ba (ch_aa (ch_G st f (ch_fs st f M) M) M d ps i) cu se wf pa := by
    intro n
    induction n with
    | zero =>
      intro i pa hi
      obtain rfl : i = N := by omega
      exact br_t (Int32.le_refl _) (hp pa)
    | succ n ih =>
      intro i pa hi
      have C := ch_aaCol (G := ch_G st f (ch_fs st f M) M) (M := M) (d := d) hB.1 (by omega) (fun q h m hm => ch_GB hfF hB.2 q h m hm) ho i (by omega)
      have qB := ch_abM ((C (d * 4 + i)).2 (by omega)) hB.2
      have z := fun pa => ih (i + 1) pa (by omega)
      refine br_f (nI_ge (by omega) (by omega)) (ch_xSlot ⟨vp_in_nI (by omega) (by omega), nm_r (by rw [nI_clamp (by omega)]) ?_⟩)
      have z' : ∀ pa, wX_allocatePortfolio_8 post (nI d) (lN (ch_fs st f M)) (n + 1) (nI (i + 1)) (nI M) (nI N) (nI R) H fd st ca fu mc hb ba (upd (ch_al (ch_G st f (ch_fs st f M) M (ch_aa (ch_G st f (ch_fs st f M) M) M d ps i (d * 4 + i))) i (ch_aa (ch_G st f (ch_fs st f M) M) M d ps i) M) (d * 4 + i) 0) cu se wf pa := z
      clear z
      generalize ch_aa (ch_G st f (ch_fs st f M) M) M d ps i = p at qB z' ⊢
      generalize p (d * 4 + i) = q at qB z'
      have S := ch_sgA qB
      have key : ∀ x6 : Int32, x6 = (if 0 ≤ q then (1 : Int32) else -1) → wX_allocatePortfolio_40 post (wX_allocatePortfolio_8 post (nI d) (lN (ch_fs st f M)) (n + 1)) (nI d) (lN (ch_fs st f M)) (nI i) q x6 (nI M) (nI N) (nI R) H fd st ca fu mc hb ba p cu se wf pa := by
        intro x6 hx
        rw [← hx] at S
        unfold wX_allocatePortfolio_40
        rw [S.1]
        have F0 : lN (ch_fs st f M) ≤ 0 ↔ ch_fs st f M = 0 := ch_lN0 (by omega)
        by_cases c : ch_fs st f M = 0
        · refine br_t (F0.mpr c) (ch_xGv hM (fun pa' hpa => ?_))
          refine ch_xA75 (g := ch_G st f (ch_fs st f M) M q) hM hd (by omega) (fun m hm => ?_) (z' pa')
          rw [hpa m hm]
          unfold ch_G
          rw [if_pos c]
          split
          · exact S.2
          · exact Int32.mul_zero
        · refine br_f (fun y => c (F0.mp y)) (ch_xSp (f := f) hM hf (by have := qB.1; have := qB.2; omega) (by omega) FB hfF hfB (fun pa' hpa => ?_))
          refine ch_xA75 (g := ch_G st f (ch_fs st f M) M q) hM hd (by omega) (fun m hm => ?_) (z' pa')
          rw [hpa m hm, lN_i, hx]
          unfold ch_G
          rw [if_neg c]
      by_cases c : 0 ≤ q
      · exact br_t c (key 1 (by rw [if_pos c]))
      · exact br_f c (key (-1) (by rw [if_neg c]))
  exact ch_xFs hM hf ⟨N + 1, L N 0 pa (by omega)⟩
/-! the reference allocates -/
/-! sold -/
theorem ch_xSe {post : St2 → Prop} {d w : Nat} {x3 : Int32} (hN : N ≤ 4) (hd : d < 8) (hw : w < 8)
    (hp : post ((nI M), (nI N), (nI R), H, fd, st, vp_updL (vp_updL ca w (ca w - x3.toInt64)) d (vp_updL ca w (ca w - x3.toInt64) d + x3.toInt64), fu, mc, hb, ba, ch_se w d ps N, cu, se, wf, pa)) : wpX_sellPortfolio post ((nI M), (nI N), (nI R), H, fd, st, ca, fu, mc, hb, ba, ps, cu, se, wf, pa) (nI d) (nI w) x3 := by
  have d8 : vp_in (nI d) 8 := vp_in_nI (by omega) (by omega)
  have w8 : vp_in (nI w) 8 := vp_in_nI (by omega) (by omega)
  have L : ∀ n i, i + n = N → wX_sellPortfolio_3 post (nI d) (nI w) x3 (nI M) (nI N) (nI R) H fd (n + 1) (nI i) st ca fu mc hb ba (ch_se w d ps i) cu se wf pa := by
    intro n
    induction n with
    | zero =>
      intro i hi
      obtain rfl : i = N := by omega
      exact br_t (Int32.le_refl _) ⟨w8, w8, nm_r (by rw [nI_clamp (by omega)]) ⟨d8, d8, nm_r (by rw [nI_clamp (by omega)]) hp⟩⟩
    | succ n ih =>
      intro i hi
      have iw : vp_in (nI (w * 4 + i)) 32 := vp_in_nI (by omega) (by omega)
      have id' : vp_in (nI (d * 4 + i)) 32 := vp_in_nI (by omega) (by omega)
      exact br_f (nI_ge (by omega) (by omega)) (ch_xSlot ⟨iw, ch_xSlot ⟨id', iw, nm_r (by rw [nI_clamp (by omega), nI_clamp (by omega)]) (ch_xSlot ⟨id', nm_r (by rw [nI_clamp (by omega)]; rfl) (nm_r (nI_1 i) (ih (i + 1) (by omega)))⟩)⟩⟩)
  exact ⟨N + 1, L N 0 (by omega)⟩
end CHJ
end
section
section CHK
/-! L: the loss and the waterfall; the auction's end -/
variable {M N R : Nat} {H : Int64} {fd : Int32} {st : Nat → Int32} {ca fu mc : Nat → Int64} {hb ba : Nat → Int32} {bb : Nat → Int64} {ps cu se : Nat → Int32} {wf pa pb : Nat → Int64}
/-- the funds once the survivors have paid -/
def ch_f3 (st : Nat → Int32) (fu : Nat → Int64) (M : Nat) (r : Int64) : Nat → Int64 := fun j =>
  if r < lN (ch_fs st (ch_fn fu) M) then (if j < M then fu j - lN (ch_g st (ch_fn fu) r.toInt.toNat (ch_fs st (ch_fn fu) M) M j) else fu j)
  else (if j < M ∧ st j = 0 then 0 else fu j)
def ch_t3 (st : Nat → Int32) (fu : Nat → Int64) (M : Nat) (r : Int64) : Int64 := if r < lN (ch_fs st (ch_fn fu) M) then r else lN (ch_fs st (ch_fn fu) M)
theorem ch_rN {r : Int64} (h : 0 ≤ r.toInt) : r = lN r.toInt.toNat := by
  have b := r.toInt_lt
  apply Int64.toInt_inj.mp
  rw [pk_lT (by omega)]
  omega
theorem ch_fsL {k : Nat} (hM : M ≤ 8) (hk : k ≤ 2564) (h : ch_Fd k fu) : ch_fs st (ch_fn fu) M < 4294967296 ∧ ∀ j, ch_fn fu j < 536870912 := by
  have a := ch_fnB h
  have b := ch_fsB (st := st) (f := ch_fn fu) (B := 512800000) (fun j => by have := a j; omega) M
  exact ⟨by omega, fun j => by have := a j; omega⟩
theorem ch_xCS {post : Int64 → St2 → Prop} {k : Nat} {r : Int64} (hM : M ≤ 8) (hk : k ≤ 2564) (hf : ch_Fd k fu) (hr : 0 ≤ r.toInt) (hp : ∀ pa', post (ch_t3 st fu M r) ((nI M), (nI N), (nI R), H, fd, st, ca, ch_f3 st fu M r, mc, hb, ba, ps, cu, se, wf, pa')) : wpX_chargeSurvivors post ((nI M), (nI N), (nI R), H, fd, st, ca, fu, mc, hb, ba, ps, cu, se, wf, pa) r := by
  have fe := ch_fnE hf
  obtain ⟨FB, fB⟩ := ch_fsL (st := st) hM hk hf
  have hfF : ∀ j, j < M → st j = 0 → ch_fn fu j ≤ ch_fs st (ch_fn fu) M := fun j hj hs => ch_fsGe hj hs
  refine ch_xFs hM fe ?_
  by_cases c : r < lN (ch_fs st (ch_fn fu) M)
  · have e3 : ch_t3 st fu M r = r := if_pos c
    rw [e3] at hp
    have er := ch_rN hr
    have rB : r.toInt.toNat < ch_fs st (ch_fn fu) M := by
      have := c
      rw [er, pk_lLT (by have := r.toInt_lt; omega) (by omega)] at this
      exact this
    refine br_t c ?_
    have S : ∀ p0, p0 = lN r.toInt.toNat → wpX_splitProRata (fun u => match u with | (fm, fi, fr, H, fd, st, ca, fu, mc, hb, ba, ps, cu, se, wf, pa) => (∃ n26 : Nat, wX_chargeSurvivors_26 post r fm fi fr H fd n26 0 st ca fu mc hb ba ps cu se wf pa)) ((nI M), (nI N), (nI R), H, fd, st, ca, fu, mc, hb, ba, ps, cu, se, wf, pa) p0 (lN (ch_fs st (ch_fn fu) M)) := by
      intro p0 hp0
      rw [hp0]
      refine ch_xSp (f := ch_fn fu) hM fe (by omega) (by omega) FB hfF fB (fun pa' hpa => ?_)
      have L : ∀ n m (F : Nat → Int64), m + n = M → (∀ j, F j = if j < m then fu j - lN (ch_g st (ch_fn fu) r.toInt.toNat (ch_fs st (ch_fn fu) M) M j) else fu j) → wX_chargeSurvivors_26 post r (nI M) (nI N) (nI R) H fd (n + 1) (nI m) st ca F mc hb ba ps cu se wf pa' := by
        intro n
        induction n with
        | zero =>
          intro m F hm hF
          obtain rfl : m = M := by omega
          obtain rfl : F = ch_f3 st fu m r := by
            funext j
            rw [hF j]
            exact (if_pos c).symm
          exact br_t (Int32.le_refl _) (hp pa')
        | succ n ih =>
          intro m F hm hF
          have i8 : vp_in (nI m) 8 := vp_in_nI (by omega) (by omega)
          refine br_f (nI_ge (by omega) (by omega)) ⟨i8, i8, i8, nm_r (by rw [nI_clamp (by omega)]) (nm_r (nI_1 m) (ih (m + 1) _ (by omega) (fun j => ?_)))⟩
          by_cases q : j = m
          · rw [q, ch_uLs, hF m, if_neg (Nat.lt_irrefl m), if_pos (Nat.lt_succ_self m), hpa m (by omega)]
          · rw [ch_uLn q, hF j]
            by_cases z : j < m
            · rw [if_pos z, if_pos (by omega)]
            · rw [if_neg z, if_neg (by omega)]
      exact ⟨M + 1, L M 0 fu (by omega) (fun j => by rw [if_neg (Nat.not_lt_zero j)])⟩
    exact S r er
  · have e3 : ch_t3 st fu M r = lN (ch_fs st (ch_fn fu) M) := if_neg c
    rw [e3] at hp
    refine br_f c ?_
    have L : ∀ n m (F : Nat → Int64), m + n = M → (∀ j, F j = if j < m ∧ st j = 0 then 0 else fu j) → wX_emptySurvivorFunds_2 (fun u => match u with | (fm, fi, fr, H, fd, st', ca, fu', mc, hb, ba, ps, cu, se, wf, pa) => (post (lN (ch_fs st (ch_fn fu) M)) (fm, fi, fr, H, fd, st', ca, fu', mc, hb, ba, ps, cu, se, wf, pa))) (nI M) (nI N) (nI R) H fd (n + 1) (nI m) st ca F mc hb ba ps cu se wf pa := by
      intro n
      induction n with
      | zero =>
        intro m F hm hF
        obtain rfl : m = M := by omega
        obtain rfl : F = ch_f3 st fu m r := by
          funext j
          rw [hF j]
          exact (if_neg c).symm
        exact br_t (Int32.le_refl _) (hp pa)
      | succ n ih =>
        intro m F hm hF
        have i8 : vp_in (nI m) 8 := vp_in_nI (by omega) (by omega)
        have c8 : (nI m).toNatClampNeg = m := nI_clamp (by omega)
        refine br_f (nI_ge (by omega) (by omega)) ⟨i8, ?_⟩
        by_cases s0 : st m = 0
        · refine br_t (by rw [c8]; exact s0) ⟨i8, nm_r (by rw [c8]) (nm_r (nI_1 m) (ih (m + 1) _ (by omega) (fun j => ?_)))⟩
          by_cases q : j = m
          · rw [q, ch_uLs, if_pos ⟨Nat.lt_succ_self m, s0⟩]
          · rw [ch_uLn q, hF j]
            by_cases z : j < m ∧ st j = 0
            · rw [if_pos z, if_pos ⟨by omega, z.2⟩]
            · have z' : ¬ (j < m + 1 ∧ st j = 0) := fun y => z ⟨by omega, y.2⟩
              rw [if_neg z, if_neg z']
        · refine br_f (by rw [c8]; exact s0) (nm_r (nI_1 m) (ih (m + 1) F (by omega) (fun j => ?_)))
          rw [hF j]
          by_cases z : j < m ∧ st j = 0
          · rw [if_pos z, if_pos ⟨by omega, z.2⟩]
          · have z' : ¬ (j < m + 1 ∧ st j = 0) := by
              intro y
              by_cases q : j = m
              · rw [q] at y; exact s0 y.2
              · exact z ⟨by omega, y.2⟩
            rw [if_neg z, if_neg z']
    exact ⟨M + 1, L M 0 fu (by omega) (fun j => by rw [if_neg (fun y => Nat.not_lt_zero j y.1)])⟩
/-! the amounts of the waterfall, as both sides reckon them -/
def ch_ls (c : Int64) : Int64 := if 0 ≤ c then 0 else -c
def ch_c2 (ca : Nat → Int64) (d : Nat) : Nat → Int64 := if 0 ≤ ca d then ca else vp_updL ca d 0
def ch_t1 (l f : Int64) : Int64 := if f ≤ l then f else l
def ch_t2 (H r : Int64) : Int64 := if H ≤ 0 then 0 else if H ≤ r then H else r
def ch_f2 (fu : Nat → Int64) (d : Nat) (l : Int64) : Nat → Int64 := vp_updL fu d (fu d - ch_t1 l (fu d))
def ch_r1 (fu : Nat → Int64) (d : Nat) (l : Int64) : Int64 := l - ch_t1 l (fu d)
def ch_r2 (H : Int64) (fu : Nat → Int64) (d : Nat) (l : Int64) : Int64 := ch_r1 fu d l - ch_t2 H (ch_r1 fu d l)
def ch_T3 (st : Nat → Int32) (H : Int64) (fu : Nat → Int64) (M d : Nat) (l : Int64) : Int64 := ch_t3 st (ch_f2 fu d l) M (ch_r2 H fu d l)
def ch_F3 (st : Nat → Int32) (H : Int64) (fu : Nat → Int64) (M d : Nat) (l : Int64) : Nat → Int64 := ch_f3 st (ch_f2 fu d l) M (ch_r2 H fu d l)
def ch_T4 (st : Nat → Int32) (H : Int64) (fu : Nat → Int64) (M d : Nat) (l : Int64) : Int64 := ch_r2 H fu d l - ch_T3 st H fu M d l
def ch_H3 (st : Nat → Int32) (H : Int64) (fu : Nat → Int64) (M d : Nat) (l : Int64) : Int64 := H - ch_t2 H (ch_r1 fu d l) - ch_T4 st H fu M d l
def ch_W5 (st : Nat → Int32) (H : Int64) (fu : Nat → Int64) (M d : Nat) (l : Int64) (wf : Nat → Int64) : Nat → Int64 :=
  vp_updL (vp_updL (vp_updL (vp_updL (vp_updL wf 0 l) 1 (ch_t1 l (fu d))) 2 (ch_t2 H (ch_r1 fu d l))) 3 (ch_T3 st H fu M d l)) 4 (ch_T4 st H fu M d l)
theorem ch_l0 {l f : Int64} (hl : 0 ≤ l.toInt) (hf : 0 ≤ f.toInt) : 0 ≤ (ch_t1 l f).toInt ∧ (ch_t1 l f).toInt ≤ l.toInt ∧ (ch_t1 l f).toInt ≤ f.toInt := by
  unfold ch_t1
  split
  · next h => have := Int64.le_iff_toInt_le.mp h; omega
  · next h =>
    rw [Int64.le_iff_toInt_le] at h; omega
theorem ch_r1B {d : Nat} {l : Int64} (hl : 0 ≤ l.toInt) (hf : 0 ≤ (fu d).toInt) : 0 ≤ (ch_r1 fu d l).toInt := by
  have a := ch_l0 hl hf
  have b := l.toInt_lt
  unfold ch_r1
  rw [ch_subL (by omega) (by omega)]
  omega
theorem ch_t2B {r : Int64} (hr : 0 ≤ r.toInt) : 0 ≤ (ch_t2 H r).toInt ∧ (ch_t2 H r).toInt ≤ r.toInt := by
  have z : (0 : Int64).toInt = 0 := by decide
  unfold ch_t2
  split
  · omega
  · next h =>
    rw [Int64.le_iff_toInt_le, z] at h
    split
    · next h' => have := Int64.le_iff_toInt_le.mp h'; omega
    · omega
theorem ch_r2B {d : Nat} {l : Int64} (hl : 0 ≤ l.toInt) (hf : 0 ≤ (fu d).toInt) : 0 ≤ (ch_r2 H fu d l).toInt := by
  have a := ch_r1B hl hf
  have b := ch_t2B (H := H) a
  have c := (ch_r1 fu d l).toInt_lt
  unfold ch_r2
  rw [ch_subL (by omega) (by omega)]
  omega
theorem ch_f2B {k d : Nat} {l : Int64} (hl : 0 ≤ l.toInt) (hf : ch_Fd k fu) : ch_Fd k (ch_f2 fu d l) := by
  have a := hf d
  have b := ch_l0 hl a.1
  have c := (fu d).toInt_lt
  refine ch_uLAll (P := fun x => 0 ≤ x.toInt ∧ x.toInt ≤ 200000 * (k : Int)) hf ?_
  show 0 ≤ (fu d - ch_t1 l (fu d)).toInt ∧ (fu d - ch_t1 l (fu d)).toInt ≤ _
  rw [ch_subL (by omega) (by omega)]
  omega
theorem ch_f3B {k : Nat} {r : Int64} (hM : M ≤ 8) (hk : k ≤ 2564) (hf : ch_Fd k fu) (hr : 0 ≤ r.toInt) : ch_Fd k (ch_f3 st fu M r) := by
  obtain ⟨FB, fB⟩ := ch_fsL (st := st) hM hk hf
  have z0 : (0 : Int64).toInt = 0 := by decide
  intro j
  have a := hf j
  unfold ch_f3
  split
  · next c =>
    split
    · have rB : r.toInt.toNat < ch_fs st (ch_fn fu) M := by
        have e := ch_rN hr
        rw [e, pk_lLT (by have := r.toInt_lt; omega) (by omega)] at c
        exact c
      have g := ch_gF (st := st) (f := ch_fn fu) (A := r.toInt.toNat) (F := ch_fs st (ch_fn fu) M) (M := M) (j := j) rB
      have e : ch_fn fu j = (fu j).toInt.toNat := rfl
      have gt : (lN (ch_g st (ch_fn fu) r.toInt.toNat (ch_fs st (ch_fn fu) M) M j)).toInt = (ch_g st (ch_fn fu) r.toInt.toNat (ch_fs st (ch_fn fu) M) M j : Int) := pk_lT (by have := fB j; omega)
      have h1 := (fu j).toInt_lt
      rw [ch_subL (by rw [gt]; omega) (by rw [gt]; omega), gt]
      omega
    · exact a
  · split
    · omega
    · exact a
theorem ch_x79 {post : St2 → Prop} {k d : Nat} {l : Int64} (hM : M ≤ 8) (hk : k ≤ 2564) (hf : ch_Fd k fu) (hl : 0 ≤ l.toInt)
    (hp : ∀ pa', post ((nI M), (nI N), (nI R), ch_H3 st H fu M d l, fd, st, ca, ch_F3 st H fu M d l, mc, hb, ba, ps, cu, se, ch_W5 st H fu M d l wf, pa')) :
    wX_chargeLoss_79 post l (ch_t1 l (fu d)) (ch_r1 fu d l) (ch_t2 H (ch_r1 fu d l)) (nI M) (nI N) (nI R) H fd st ca (ch_f2 fu d l) mc hb ba ps cu se wf pa := by
  refine nm_e (nm_e (ch_xCS (k := k) hM hk (ch_f2B hl hf) (ch_r2B hl (hf d).1) (fun pa' => ?_)))
  exact nm_e (nm_e (nm_e (nm_e (nm_e (nm_e (nm_e (hp pa')))))))
theorem ch_x28 {post : St2 → Prop} {k d : Nat} {l : Int64} (hM : M ≤ 8) (hd : d < 8) (hk : k ≤ 2564) (hf : ch_Fd k fu) (hl : 0 ≤ l.toInt)
    (hp : ∀ pa', post ((nI M), (nI N), (nI R), ch_H3 st H fu M d l, fd, st, ca, ch_F3 st H fu M d l, mc, hb, ba, ps, cu, se, ch_W5 st H fu M d l wf, pa')) :
    wX_chargeLoss_28 post (nI d) l (nI M) (nI N) (nI R) H fd st ca fu mc hb ba ps cu se wf pa := by
  have d8 : vp_in (nI d) 8 := vp_in_nI (by omega) (by omega)
  have c8 : (nI d).toNatClampNeg = d := nI_clamp (by omega)
  have Z := ch_x79 (wf := wf) (ca := ca) (mc := mc) (hb := hb) (ba := ba) (ps := ps) (cu := cu) (se := se) (pa := pa) (N := N) (R := R) (fd := fd) hM hk hf hl hp
  have rest : ∀ r4, r4 = ch_t1 l (fu d) → (vp_in (nI d) 8 ∧ (vp_in (nI d) 8 ∧ ∀ a_fund_7 : Nat → Int64, a_fund_7 = vp_updL fu (nI d).toNatClampNeg ((fu (nI d).toNatClampNeg) - r4) → (∀ x6_8 : Int64, x6_8 = l - r4 → (((H ≤ 0 → (wX_chargeLoss_79 post l r4 x6_8 0 (nI M) (nI N) (nI R) H fd st ca a_fund_7 mc hb ba ps cu se wf pa)) ∧ (¬ H ≤ 0 → (wpX_lesser (fun r_41 => (wX_chargeLoss_79 post l r4 x6_8 r_41 (nI M) (nI N) (nI R) H fd st ca a_fund_7 mc hb ba ps cu se wf pa)) () x6_8 H))))))) := by
    intro r4 h4
    subst h4
    refine ⟨d8, d8, nm_r (e' := ch_f2 fu d l) (by rw [c8]; rfl) (nm_r (e' := ch_r1 fu d l) rfl ?_)⟩
    by_cases h0 : H ≤ 0
    · rw [show ch_t2 H (ch_r1 fu d l) = 0 from if_pos h0] at Z
      exact br_t h0 Z
    · refine br_f h0 ?_
      by_cases h1 : H ≤ ch_r1 fu d l
      · rw [show ch_t2 H (ch_r1 fu d l) = H from (if_neg h0).trans (if_pos h1)] at Z
        exact br_t h1 Z
      · rw [show ch_t2 H (ch_r1 fu d l) = ch_r1 fu d l from (if_neg h0).trans (if_neg h1)] at Z
        exact br_f h1 Z
  refine ⟨d8, ?_⟩
  by_cases c : fu d ≤ l
  · exact br_t (by rw [c8]; exact c) (rest _ (by rw [c8]; exact (if_pos c).symm))
  · exact br_f (by rw [c8]; exact c) (rest _ (if_neg c).symm)
theorem ch_xCL {post : St2 → Prop} {k d : Nat} (hM : M ≤ 8) (hd : d < 8) (hk : k ≤ 2564) (hf : ch_Fd k fu) (hc : -9000000000000000000 ≤ (ca d).toInt)
    (hp : ∀ pa', post ((nI M), (nI N), (nI R), ch_H3 st H fu M d (ch_ls (ca d)), fd, st, ch_c2 ca d, ch_F3 st H fu M d (ch_ls (ca d)), mc, hb, ba, ps, cu, se, ch_W5 st H fu M d (ch_ls (ca d)) wf, pa')) : wpX_chargeLoss post ((nI M), (nI N), (nI R), H, fd, st, ca, fu, mc, hb, ba, ps, cu, se, wf, pa) (nI d) := by
  have d8 : vp_in (nI d) 8 := vp_in_nI (by omega) (by omega)
  have c8 : (nI d).toNatClampNeg = d := nI_clamp (by omega)
  have z0 : (0 : Int64).toInt = 0 := by decide
  refine ⟨d8, ?_⟩
  by_cases c : 0 ≤ ca d
  · rw [show ch_ls (ca d) = 0 from if_pos c, show ch_c2 ca d = ca from if_pos c] at hp
    exact br_t (by rw [c8]; exact c) (ch_x28 hM hd hk hf (by omega) hp)
  · rw [show ch_ls (ca d) = -(ca d) from if_neg c, show ch_c2 ca d = vp_updL ca d 0 from if_neg c] at hp
    have c' := c
    rw [Int64.le_iff_toInt_le, z0] at c'
    exact br_f (by rw [c8]; exact c) ⟨d8, nm_r (by rw [c8]) ⟨d8, nm_r (by rw [c8]) (ch_x28 hM hd hk hf (by rw [ch_negL (by omega)]; omega) hp)⟩⟩
theorem ch_x49 {post : Int32 → St2 → Prop} {k d : Nat} {x2 x3 : Int32} (hM : M ≤ 8) (hd : d < 8) (hk : k ≤ 2564) (hf : ch_Fd k fu) (hc : -9000000000000000000 ≤ (ca d).toInt) (hh : ∀ j, M ≤ j → hb j = 0)
    (hp : ∀ pa', post 1 ((nI M), (nI N), (nI R), ch_H3 st H fu M d (ch_ls (ca d)), (-1), upd st d 2, ch_c2 ca d, ch_F3 st H fu M d (ch_ls (ca d)), mc, (fun _ => 0), ba, ps, cu, se, vp_updL (vp_updL (ch_W5 st H fu M d (ch_ls (ca d)) wf) 5 x2.toInt64) 6 x3.toInt64, pa')) : wX_closeAuction_49 post (nI d) x2 x3 (nI M) (nI N) (nI R) H fd st ca fu mc hb ba ps cu se wf pa := by
  have d8 : vp_in (nI d) 8 := vp_in_nI (by omega) (by omega)
  have c8 : (nI d).toNatClampNeg = d := nI_clamp (by omega)
  refine ch_xCL hM hd hk hf hc (fun pa' => ?_)
  exact nm_e (nm_e ⟨d8, nm_r (by rw [c8]) (ch_xCB hM hh (hp pa'))⟩)
/-! the reference -/
end CHK
end
section
section CHL
/-! M: the bidder, the auction's end, the start -/
variable {M N R : Nat} {H : Int64} {fd : Int32} {st : Nat → Int32} {ca fu mc : Nat → Int64} {hb ba : Nat → Int32} {bb : Nat → Int64} {ps cu se : Nat → Int32} {wf pa pb : Nat → Int64}
def ch_bs (hb ba : Nat → Int32) : Nat → Option Nat
  | 0 => none
  | m + 1 => if hb m = 0 then ch_bs hb ba m else (match ch_bs hb ba m with | none => some m | some w => if ba m ≤ ba w then some w else some m)
theorem ch_bsB : ∀ m w, ch_bs hb ba m = some w → w < m ∧ ¬ hb w = 0 := by
  intro m
  induction m with
  | zero => intro w h; cases h
  | succ m ih =>
    intro w h
    unfold ch_bs at h
    by_cases q : hb m = 0
    · rw [if_pos q] at h
      have := ih w h
      exact ⟨by omega, this.2⟩
    · rw [if_neg q] at h
      cases e : ch_bs hb ba m with
      | none =>
        rw [e] at h
        cases h
        exact ⟨by omega, q⟩
      | some t =>
        rw [e] at h
        by_cases c : ba m ≤ ba t
        · have h' : some t = some w := by rw [← h]; exact (if_pos c).symm
          cases h'
          have := ih _ e
          exact ⟨by omega, this.2⟩
        · have h' : some m = some w := by rw [← h]; exact (if_neg c).symm
          cases h'
          exact ⟨by omega, q⟩
def ch_ox (x : Int32) : Option Nat → Int32
  | none => x
  | some w => nI w
theorem ch_ne2 {a : Nat} (h : a < 2 ^ 31) : ¬ nI a = -2 := by
  intro e
  have := nI_pos (n := a) h
  rw [e] at this
  exact this (by decide)
theorem ch_bs0 {m : Nat} (h : hb m = 0) : ch_bs hb ba (m + 1) = ch_bs hb ba m := if_pos h
theorem ch_bs1 {m : Nat} (h : ¬ hb m = 0) (e : ch_bs hb ba m = none) : ch_bs hb ba (m + 1) = some m := by
  show (if hb m = 0 then ch_bs hb ba m else (match ch_bs hb ba m with | none => some m | some w => if ba m ≤ ba w then some w else some m)) = _
  rw [if_neg h, e]
theorem ch_bs2 {m w : Nat} (h : ¬ hb m = 0) (e : ch_bs hb ba m = some w) (c : ba m ≤ ba w) : ch_bs hb ba (m + 1) = some w := by
  show (if hb m = 0 then ch_bs hb ba m else (match ch_bs hb ba m with | none => some m | some w => if ba m ≤ ba w then some w else some m)) = _
  rw [if_neg h, e]
  exact if_pos c
theorem ch_bs3 {m w : Nat} (h : ¬ hb m = 0) (e : ch_bs hb ba m = some w) (c : ¬ ba m ≤ ba w) : ch_bs hb ba (m + 1) = some m := by
  show (if hb m = 0 then ch_bs hb ba m else (match ch_bs hb ba m with | none => some m | some w => if ba m ≤ ba w then some w else some m)) = _
  rw [if_neg h, e]
  exact if_neg c
theorem ch_xHB {post : Int32 → Prop} (hM : M ≤ 8) (hp : post (ch_ox (-2) (ch_bs hb ba M))) : wpX_highestBidder post ((nI M), (nI N), (nI R), H, fd, st, ca, fu, mc, hb, ba, ps, cu, se, wf, pa) := by
  have L : ∀ n m, m + n = M → wX_highestBidder_5 post (nI M) (nI N) (nI R) H fd st ca fu mc hb ba ps cu se wf pa (n + 1) (ch_ox (-2) (ch_bs hb ba m)) (nI m) := by
    intro n
    induction n with
    | zero =>
      intro m hm
      obtain rfl : m = M := by omega
      exact br_t (Int32.le_refl _) hp
    | succ n ih =>
      intro m hm
      have i8 : vp_in (nI m) 8 := vp_in_nI (by omega) (by omega)
      have c8 : (nI m).toNatClampNeg = m := nI_clamp (by omega)
      have z := ih (m + 1) (by omega)
      refine br_f (nI_ge (by omega) (by omega)) ⟨i8, ?_⟩
      by_cases q : hb m = 0
      · rw [ch_bs0 q] at z
        exact br_t (by rw [c8]; exact q) (nm_r (nI_1 m) z)
      · refine br_f (by rw [c8]; exact q) ?_
        cases e : ch_bs hb ba m with
        | none =>
          rw [ch_bs1 q e] at z
          exact br_t rfl (nm_r (nI_1 m) z)
        | some w =>
          have wb := ch_bsB m w e
          have w8 : vp_in (nI w) 8 := vp_in_nI (by omega) (by omega)
          have cw : (nI w).toNatClampNeg = w := nI_clamp (by omega)
          refine br_f (ch_ne2 (a := w) (by omega)) ⟨i8, w8, ?_⟩
          have cc : (ba (nI m).toNatClampNeg ≤ ba (nI w).toNatClampNeg) ↔ ba m ≤ ba w := by rw [c8, cw]
          by_cases c : ba m ≤ ba w
          · rw [ch_bs2 q e c] at z
            exact br_t (cc.mpr c) (nm_r (nI_1 m) z)
          · rw [ch_bs3 q e c] at z
            exact br_f (fun y => c (cc.mp y)) (nm_r (nI_1 m) z)
  exact ⟨M + 1, L M 0 (by omega)⟩
theorem ch_c2B {k d : Nat} (h : ch_Ca k ca) : ch_Ca k (ch_c2 ca d) := by
  unfold ch_c2
  split
  · exact h
  · refine ch_uLAll (P := ch_aL (10000000000000 * (k : Int))) h ?_
    have z0 : (0 : Int64).toInt = 0 := by decide
    unfold ch_aL; rw [z0]; omega
theorem ch_seC {k d w : Nat} {x : Int32} (hk : k + 5 ≤ 2564) (h : ch_Ca k ca) (hx : ch_ab 1000000 x) : ch_Ca (k + 5) (vp_updL (vp_updL ca w (ca w - x.toInt64)) d (vp_updL ca w (ca w - x.toInt64) d + x.toInt64)) := by
  have X : ch_aL 1000000 x.toInt64 := ch_aLi hx
  have a : ∀ j, ch_aL (10000000000000 * (k : Int) + 1000000) (vp_updL ca w (ca w - x.toInt64) j) :=
    ch_uLAll (P := ch_aL (10000000000000 * (k : Int) + 1000000)) (fun j => ch_aLM (h j) (by omega)) (ch_aLsub (h w) X (by omega))
  exact ch_uLAll (P := ch_aL (10000000000000 * ((k + 5 : Nat) : Int))) (fun j => ch_aLM (a j) (by omega)) (ch_aLM (ch_aLadd (a d) X (by omega)) (by omega))
theorem ch_lsB {c : Int64} (h : -9000000000000000000 ≤ c.toInt) : 0 ≤ (ch_ls c).toInt := by
  have z0 : (0 : Int64).toInt = 0 := by decide
  unfold ch_ls
  split
  · omega
  · next q =>
    rw [Int64.le_iff_toInt_le, z0] at q
    rw [ch_negL (by omega)]
    omega
/-! the start -/
theorem ch_clamp (v : Int32) (lo hi : Nat) (h : lo ≤ hi) (hi' : hi < 2 ^ 31) : ∃ n : Nat, lo ≤ n ∧ n ≤ hi ∧ ∀ (P : Int32 → Prop) (Q : Prop), P (nI n) → (P (nI lo) → Q) → ((nI lo ≤ v → ((v ≤ nI hi → P v) ∧ (¬ v ≤ nI hi → P (nI hi)))) ∧ (¬ nI lo ≤ v → Q)) := by
  by_cases a : nI lo ≤ v
  · by_cases b : v ≤ nI hi
    · have v0 : ¬ v < 0 := by
        have x := Int32.le_iff_toInt_le.mp a
        rw [nI_toInt (by omega)] at x
        rw [Int32.lt_iff_toInt_lt, show (0 : Int32).toInt = 0 from by decide]
        omega
      obtain ⟨n, hn, rfl⟩ := nI_of v0
      rw [nI_leI (by omega) hn] at a
      rw [nI_leI hn hi'] at b
      exact ⟨n, a, b, fun P Q p _ => br_t (nI_le a hn) (br_t (nI_le b hi') p)⟩
    · exact ⟨hi, h, Nat.le_refl _, fun P Q p _ => br_t a (br_f b p)⟩
  · exact ⟨lo, Nat.le_refl _, h, fun P Q p q => br_f a (q p)⟩
def ch_ini : Nat → Nat → Int32
  | 0 => fun _ => 0
  | i + 1 => upd (ch_ini i) i 100
theorem ch_iniE : ∀ n j, j < n → ch_ini n j = 100 := by
  intro n
  induction n with
  | zero => intro j hj; omega
  | succ n ih =>
    intro j hj
    show upd (ch_ini n) n 100 j = 100
    by_cases q : j = n
    · rw [q, ch_us]
    · rw [ch_un q]; exact ih j (by omega)
theorem ch_xIni {kw ks kc kd : Nat} {post : St2 → Prop} (hp : post ((nI M), (nI N), (nI R), H, fd, (fun _ => 0), ca, fu, mc, hb, ba, ps, ch_ini 4, ch_ini 4, vp_updL wf 5 (-1), pa)) : ∃ n, wX_init_143 post kw ks kc kd (nI M) (nI N) (nI R) H fd n 0 (fun _ => 0) ca fu mc hb ba ps (fun _ => 0) (fun _ => 0) wf pa := by
  have L : ∀ n i, i + n = 4 → wX_init_143 post kw ks kc kd (nI M) (nI N) (nI R) H fd (n + 1) (nI i) (fun _ => 0) ca fu mc hb ba ps (ch_ini i) (ch_ini i) wf pa := by
    intro n
    induction n with
    | zero =>
      intro i hi
      obtain rfl : i = 4 := by omega
      exact br_t (Int32.le_refl _) (nm_e hp)
    | succ n ih =>
      intro i hi
      have i4 : vp_in (nI i) 4 := vp_in_nI (by omega) (by omega)
      exact br_f (nI_ge (b := 4) (by omega) (by omega)) ⟨i4, nm_r (by rw [nI_clamp (by omega)]; rfl) ⟨i4, nm_r (by rw [nI_clamp (by omega)]; rfl) (nm_r (nI_1 i) (ih (i + 1) (by omega)))⟩⟩
  exact ⟨5, L 4 0 (by omega)⟩
end CHL
end
section
section CPA
/-! the invariant: zero-sum positions, money kept -/
variable {k M N R : Nat} {E : Int64} {H : Int64} {fd : Int32} {st : Nat → Int32} {ca fu mc : Nat → Int64} {hb ba : Nat → Int32} {ps cu se : Nat → Int32} {wf pa : Nat → Int64}
def cp_Zs (M N : Nat) (ps : Nat → Int32) : Prop := ∀ i, i < N → ch_sI (fun m => (ps (m * 4 + i)).toInt) M = 0
def cp_Bx (M : Nat) (st hb ba : Nat → Int32) : Prop := (∀ j, M ≤ j → hb j = 0) ∧ ∀ j, ¬ hb j = 0 → st j = 0 ∧ ch_ab 1000000 (ba j)
def cp_Sv (M : Nat) (fd : Int32) (st : Nat → Int32) : Prop := fd = -1 ∨ ∃ j, j < M ∧ st j = 0
def cp_IX (k M N R : Nat) (E H : Int64) (fd : Int32) (st : Nat → Int32) (ca fu : Nat → Int64) (hb ba ps cu se : Nat → Int32) : Prop :=
  ch_Cn M N R ∧ ch_Ph M fd st ∧ cp_Bx M st hb ba ∧ ch_Fd k fu ∧ ch_Ca k ca ∧ ch_Po M st ps ∧ ch_Pr cu se ∧ cp_Zs M N ps ∧ H + ch_sL ca M + ch_sL fu M = E ∧ cp_Sv M fd st
def cp_RX (k M N R : Nat) (E : Int64) (u : St2) : Prop := ∃ (H : Int64) (fd : Int32) (st : Nat → Int32) (ca fu mc : Nat → Int64) (hb ba ps cu se : Nat → Int32) (wf pa : Nat → Int64), u = ((nI M), (nI N), (nI R), H, fd, st, ca, fu, mc, hb, ba, ps, cu, se, wf, pa) ∧ cp_IX k M N R E H fd st ca fu hb ba ps cu se
theorem cp_mk (h : cp_IX k M N R E H fd st ca fu hb ba ps cu se) : cp_RX k M N R E ((nI M), (nI N), (nI R), H, fd, st, ca, fu, mc, hb, ba, ps, cu, se, wf, pa) := ⟨H, fd, st, ca, fu, mc, hb, ba, ps, cu, se, wf, pa, rfl, h⟩
theorem cp_up {k' : Nat} {u : St2} (h : cp_RX k M N R E u) (hk : k ≤ k') : cp_RX k' M N R E u := by
  obtain ⟨H, fd, st, ca, fu, mc, hb, ba, ps, cu, se, wf, pa, rfl, hc, hp, hi, hf, ha, ho, hr, hz, he, hs⟩ := h
  exact cp_mk ⟨hc, hp, hi, ch_FdU hf hk, ch_CaU ha hk, ho, hr, hz, he, hs⟩
theorem cp_cons1 {m : Nat} {x : Int64} (hm : m < M) (he : H + ch_sL ca M + ch_sL fu M = E) : H + ch_sL (vp_updL ca m (ca m + x)) M + ch_sL fu M = E + x := by
  rw [ch_sLu, if_pos hm, ← he]; grind
theorem cp_cons2 {m : Nat} {x : Int64} (hm : m < M) (he : H + ch_sL ca M + ch_sL fu M = E) : H + ch_sL ca M + ch_sL (vp_updL fu m (fu m + x)) M = E + x := by
  rw [ch_sLu, if_pos hm, ← he]; grind
theorem cp_cons3 {m : Nat} {x : Int64} (hm : m < M) (he : H + ch_sL ca M + ch_sL fu M = E) : H + ch_sL (vp_updL ca m (ca m - x)) M + ch_sL fu M = E - x := by
  rw [ch_sLu, if_pos hm, ← he]; grind
theorem cp_cons4 {m : Nat} {x : Int64} (hm : m < M) (he : H + ch_sL ca M + ch_sL fu M = E) : H + ch_sL ca M + ch_sL (vp_updL fu m (fu m - x)) M = E - x := by
  rw [ch_sLu, if_pos hm, ← he]; grind
theorem cp_deposit {u : St2} {v1 v2 v3 : Int32} {post : Int32 → St2 → Prop} (I : cp_RX k M N R E u) (hk : k + 5 ≤ 2564) (h0 : ∀ u', cp_RX (k + 5) M N R E u' → post 0 u') (h1 : ∀ u', cp_RX (k + 5) M N R (E + v3.toInt64) u' → post 1 u') : wpX_deposit post u v1 v2 v3 := by
  have J := h0 _ (cp_up I (show k ≤ k + 5 by omega))
  obtain ⟨H, fd, st, ca, fu, mc, hb, ba, ps, cu, se, wf, pa, rfl, hc, hp, hi, hf, ha, ho, hr, hz, he, hs⟩ := I
  have hM := hc.1.2
  rcases ch_sort v1 (n := M) (by omega) with h | ⟨h, h'⟩ | ⟨m, hm, rfl, h, h'⟩
  · exact br_t h (br_t rfl J)
  · exact br_f h (br_t h' (br_t rfl J))
  have i8 : vp_in (nI m) 8 := vp_in_nI (by omega) (by omega)
  have c8 : (nI m).toNatClampNeg = m := nI_clamp (by omega)
  refine br_f h (br_f h' (br_f ch_n10 ?_))
  have amo : ∀ (Q : Prop) , (¬ v3 < 1 → v3 ≤ 1000000 → Q) → (wpX_isAmount (fun r_21 => ((r_21 = 0 → post 0 ((nI M), (nI N), (nI R), H, fd, st, ca, fu, mc, hb, ba, ps, cu, se, wf, pa)) ∧ (¬ r_21 = 0 → Q))) () v3) := by
    intro Q hq
    by_cases b0 : v3 < 1
    · exact br_t b0 (br_t rfl J)
    · by_cases b1 : v3 ≤ 1000000
      · exact br_f b0 (br_f (Int32.not_lt.mpr b1) (br_f ch_n10 (hq b0 b1)))
      · exact br_f b0 (br_t (Int32.not_le.mp b1) (br_t rfl J))
  by_cases a0 : v2 = 0
  · refine br_t a0 (br_f ch_n10 (amo _ (fun b0 b1 => ⟨i8, ?_⟩)))
    have am := ch_amt (c := 1000000) (by decide) b0 b1
    by_cases s0 : st (nI m).toNatClampNeg = 0
    · have n1 : ¬ v2 = 1 := by rw [a0]; decide
      refine br_t s0 (br_f n1 ⟨i8, i8, nm_r (e' := vp_updL ca m (ca m + v3.toInt64)) (by rw [c8]) ⟨i8, i8, ?_⟩⟩)
      have Q := ch_CaAdd (m := m) hk ha (ch_aLi (x := v3) (C := 20000000000000) (by omega))
      have fin : ∀ r31, (vp_in (nI m) 8 ∧ ∀ y : Nat → Int64, y = vp_updL mc (nI m).toNatClampNeg (mc (nI m).toNatClampNeg - r31) → post 1 ((nI M), (nI N), (nI R), H, fd, st, vp_updL ca m (ca m + v3.toInt64), fu, y, hb, ba, ps, cu, se, wf, pa)) :=
        fun r31 => ⟨i8, fun y _ => h1 _ (cp_mk ⟨hc, hp, hi, ch_FdU hf (by omega), Q, ho, hr, hz, cp_cons1 hm he, hs⟩)⟩
      by_cases q : v3.toInt64 ≤ mc (nI m).toNatClampNeg
      · exact br_t q (fin _)
      · exact br_f q (fin _)
    · exact br_f s0 J
  · by_cases a1 : v2 = 1
    · refine br_f a0 (br_t a1 (br_f ch_n10 (amo _ (fun b0 b1 => ⟨i8, ?_⟩))))
      have am := ch_amt (c := 1000000) (by decide) b0 b1
      by_cases s0 : st (nI m).toNatClampNeg = 0
      · exact br_t s0 (br_t a1 ⟨i8, i8, nm_r (e' := vp_updL fu m (fu m + v3.toInt64)) (by rw [c8]) (h1 _ (cp_mk ⟨hc, hp, hi, ch_FdAdd hk hf am, ch_CaU ha (by omega), ho, hr, hz, cp_cons2 hm he, hs⟩))⟩)
      · exact br_f s0 J
    · exact br_f a0 (br_f a1 (br_t rfl J))
theorem cp_withdraw {u : St2} {v1 v2 v3 : Int32} {post : Int32 → St2 → Prop} (I : cp_RX k M N R E u) (hk : k + 5 ≤ 2564) (h0 : ∀ u', cp_RX (k + 5) M N R E u' → post 0 u') (h1 : ∀ u', cp_RX (k + 5) M N R (E - v3.toInt64) u' → post 1 u') : wpX_withdraw post u v1 v2 v3 := by
  have J := h0 _ (cp_up I (show k ≤ k + 5 by omega))
  obtain ⟨H, fd, st, ca, fu, mc, hb, ba, ps, cu, se, wf, pa, rfl, hc, hp, hi, hf, ha, ho, hr, hz, he, hs⟩ := I
  have hM := hc.1.2
  rcases ch_sort v1 (n := M) (by omega) with h | ⟨h, h'⟩ | ⟨m, hm, rfl, h, h'⟩
  · exact br_t h (br_t rfl J)
  · exact br_f h (br_t h' (br_t rfl J))
  have i8 : vp_in (nI m) 8 := vp_in_nI (by omega) (by omega)
  have c8 : (nI m).toNatClampNeg = m := nI_clamp (by omega)
  refine br_f h (br_f h' (br_f ch_n10 ?_))
  have amo : ∀ (Q : Prop) , (¬ v3 < 1 → v3 ≤ 1000000 → Q) → (wpX_isAmount (fun r_21 => ((r_21 = 0 → post 0 ((nI M), (nI N), (nI R), H, fd, st, ca, fu, mc, hb, ba, ps, cu, se, wf, pa)) ∧ (¬ r_21 = 0 → Q))) () v3) := by
    intro Q hq
    by_cases b0 : v3 < 1
    · exact br_t b0 (br_t rfl J)
    · by_cases b1 : v3 ≤ 1000000
      · exact br_f b0 (br_f (Int32.not_lt.mpr b1) (br_f ch_n10 (hq b0 b1)))
      · exact br_f b0 (br_t (Int32.not_le.mp b1) (br_t rfl J))
  by_cases a0 : v2 = 0
  · refine br_t a0 (br_f ch_n10 (amo _ (fun b0 b1 => ?_)))
    have am := ch_amt (c := 1000000) (by decide) b0 b1
    by_cases f0 : fd = -1
    case neg => exact br_f f0 (br_f ch_n10 J)
    have n1 : ¬ v2 = 1 := by rw [a0]; decide
    refine br_t f0 (br_t rfl (br_f n1 ⟨i8, ?_⟩))
    by_cases c0 : mc (nI m).toNatClampNeg = 0
    · refine br_t c0 ⟨i8, ch_xIM (by omega) hc.2.1.2 hc.2.2 hr ?_⟩
      by_cases q : ch_L (ch_im (ch_p ps se R m) N) ≤ ca (nI m).toNatClampNeg - v3.toInt64
      · exact br_t q ⟨i8, i8, nm_r (e' := vp_updL ca m (ca m - v3.toInt64)) (by rw [c8]) (h1 _ (cp_mk ⟨hc, hp, hi, ch_FdU hf (by omega), ch_CaSub hk ha (ch_aLi (x := v3) (C := 20000000000000) (by omega)), ho, hr, hz, cp_cons3 hm he, hs⟩))⟩
      · exact br_f q J
    · exact br_f c0 J
  · by_cases a1 : v2 = 1
    · refine br_f a0 (br_t a1 (br_f ch_n10 (amo _ (fun b0 b1 => ?_))))
      have am := ch_amt (c := 1000000) (by decide) b0 b1
      by_cases f0 : fd = -1
      case neg => exact br_f f0 (br_f ch_n10 J)
      refine br_t f0 (br_t rfl (br_t a1 ⟨i8, ?_⟩))
      by_cases q : v3.toInt64 ≤ fu (nI m).toNatClampNeg
      · have q' : v3.toInt64 ≤ fu m := by rw [← c8]; exact q
        exact br_t q ⟨i8, i8, nm_r (e' := vp_updL fu m (fu m - v3.toInt64)) (by rw [c8]) (h1 _ (cp_mk ⟨hc, hp, hi, ch_FdSub hk hf am q', ch_CaU ha (by omega), ho, hr, hz, cp_cons4 hm he, hs⟩))⟩
      · exact br_f q J
    · exact br_f a0 (br_f a1 (br_t rfl J))
theorem cp_quote {u : St2} {v1 v2 : Int32} {post : Int32 → St2 → Prop} (I : cp_RX k M N R E u) (hq : ∀ r u', cp_RX (k + 5) M N R E u' → post r u') : wpX_quote post u v1 v2 := by
  have J := fun r => hq r _ (cp_up I (show k ≤ k + 5 by omega))
  obtain ⟨H, fd, st, ca, fu, mc, hb, ba, ps, cu, se, wf, pa, rfl, hc, hp, hi, hf, ha, ho, hr, hz, he, hs⟩ := I
  have hN := hc.2.1.2
  rcases ch_sort v1 (n := N) (by omega) with h | ⟨h, h'⟩ | ⟨m, hm, rfl, h, h'⟩
  · exact br_t h (br_t rfl (J _))
  · exact br_f h (br_t h' (br_t rfl (J _)))
  have i4 : vp_in (nI m) 4 := vp_in_nI (by omega) (by omega)
  refine br_f h (br_f h' (br_f ch_n10 ?_))
  by_cases b0 : v2 < 1
  · exact br_t b0 (J _)
  by_cases b1 : v2 ≤ 100000
  · have am := ch_amt (c := 100000) (by decide) b0 b1
    exact br_f b0 (br_t b1 ⟨i4, nm_e (hq _ _ (cp_mk ⟨hc, hp, hi, ch_FdU hf (by omega), ch_CaU ha (by omega), ho, ch_PrQ hr am, hz, he, hs⟩))⟩)
  · exact br_f b0 (br_f b1 (J _))
theorem cp_bid {u : St2} {v1 v2 : Int32} {post : Int32 → St2 → Prop} (I : cp_RX k M N R E u) (hq : ∀ r u', cp_RX (k + 5) M N R E u' → post r u') : wpX_bid post u v1 v2 := by
  have J := fun r => hq r _ (cp_up I (show k ≤ k + 5 by omega))
  obtain ⟨H, fd, st, ca, fu, mc, hb, ba, ps, cu, se, wf, pa, rfl, hc, hp, hi, hf, ha, ho, hr, hz, he, hs⟩ := I
  have hM := hc.1.2
  by_cases f0 : fd = -1
  · exact br_t f0 (br_t rfl (J _))
  refine br_f f0 (br_f ch_n10 ?_)
  rcases ch_sort v1 (n := M) (by omega) with h | ⟨h, h'⟩ | ⟨m, hm, rfl, h, h'⟩
  · exact br_t h (br_t rfl (J _))
  · exact br_f h (br_t h' (br_t rfl (J _)))
  have i8 : vp_in (nI m) 8 := vp_in_nI (by omega) (by omega)
  have c8 : (nI m).toNatClampNeg = m := nI_clamp (by omega)
  refine br_f h (br_f h' (br_f ch_n10 ⟨i8, ?_⟩))
  by_cases s0 : st (nI m).toNatClampNeg = 0
  case neg => exact br_f s0 (J _)
  refine br_t s0 ?_
  by_cases b0 : v2 < -1000000
  · exact br_t b0 (J _)
  by_cases b1 : v2 ≤ 1000000
  case neg => exact br_f b0 (br_f b1 (J _))
  have am : ch_ab 1000000 v2 := by
    rw [Int32.lt_iff_toInt_lt] at b0
    rw [Int32.le_iff_toInt_le] at b1
    have c1 : (-1000000 : Int32).toInt = -1000000 := by decide
    have c2 : (1000000 : Int32).toInt = 1000000 := by decide
    exact ⟨by omega, by omega⟩
  have B : cp_Bx M st (upd hb m 1) (upd ba m v2) := by
    refine ⟨fun j hj => ?_, fun j hj => ?_⟩
    · rw [ch_un (by omega)]; exact hi.1 j hj
    · by_cases q : j = m
      · rw [q, ch_us]
        exact ⟨by rw [← c8]; exact s0, am⟩
      · rw [ch_un q]; rw [ch_un q] at hj; exact hi.2 j hj
  exact br_f b0 (br_t b1 ⟨i8, nm_r (e' := upd hb m 1) (by rw [c8]) ⟨i8, nm_r (e' := upd ba m v2) (by rw [c8]) (hq _ _ (cp_mk ⟨hc, hp, B, ch_FdU hf (by omega), ch_CaU ha (by omega), ho, hr, hz, he, hs⟩))⟩⟩)
theorem cp_ZsT {b s i : Nat} {A B : Int32} {q : Int} (hb' : b < M) (hs' : s < M) (ne : b ≠ s) (hi : i < 4) (hN : N ≤ 4) (hA : A.toInt = (ps (b * 4 + i)).toInt + q) (hB : B.toInt = (ps (s * 4 + i)).toInt - q) (hz : cp_Zs M N ps) : cp_Zs M N (upd (upd ps (b * 4 + i) A) (s * 4 + i) B) := by
  intro j hj
  by_cases e : j = i
  · subst e
    have E1 : ∀ m, m < M → (upd (upd ps (b * 4 + j) A) (s * 4 + j) B (m * 4 + j)).toInt = ((ps (m * 4 + j)).toInt + (if m = b then q else 0)) + (if m = s then -q else 0) := by
      intro m _
      by_cases c : m = s
      · subst c
        rw [ch_us, if_pos rfl, if_neg (fun y => ne y.symm), hB]; omega
      · rw [ch_un (by omega), if_neg c]
        by_cases d : m = b
        · subst d
          rw [ch_us, if_pos rfl, hA]; omega
        · rw [ch_un (by omega), if_neg d]; omega
    rw [ch_sIc M E1, ch_sIa, ch_sIa, hz j hj, ch_sI1, ch_sI1, if_pos hb', if_pos hs']; omega
  · rw [ch_sIc (g := fun m => (ps (m * 4 + j)).toInt) M (fun m _ => by
      show (upd (upd ps (b * 4 + i) A) (s * 4 + i) B (m * 4 + j)).toInt = _
      rw [ch_un (by omega), ch_un (by omega)])]
    exact hz j hj
theorem cp_trade {u : St2} {v1 v2 v3 v4 : Int32} {post : Int32 → St2 → Prop} (I : cp_RX k M N R E u) (hk : k + 5 ≤ 2564) (hq : ∀ r u', cp_RX (k + 5) M N R E u' → post r u') : wpX_trade post u v1 v2 v3 v4 := by
  have J := fun r => hq r _ (cp_up I (show k ≤ k + 5 by omega))
  obtain ⟨H, fd, st, ca, fu, mc, hb, ba, ps, cu, se, wf, pa, rfl, hc, hp, hi, hf, ha, ho, hr, hz, he, hs⟩ := I
  have hM := hc.1.2
  have hN := hc.2.1.2
  by_cases f0 : fd = -1
  case neg => exact br_f f0 (br_f ch_n10 (J _))
  refine br_t f0 (br_t rfl ?_)
  rcases ch_sort v1 (n := M) (by omega) with h | ⟨h, h'⟩ | ⟨b, hb', rfl, h, h'⟩
  · exact br_t h (br_t rfl (J _))
  · exact br_f h (br_t h' (br_t rfl (J _)))
  refine br_f h (br_f h' (br_f ch_n10 ?_))
  rcases ch_sort v2 (n := M) (by omega) with g | ⟨g, g'⟩ | ⟨s, hs', rfl, g, g'⟩
  · exact br_t g (br_t rfl (J _))
  · exact br_f g (br_t g' (br_t rfl (J _)))
  refine br_f g (br_f g' (br_f ch_n10 ?_))
  have b8 : vp_in (nI b) 8 := vp_in_nI (by omega) (by omega)
  have s8 : vp_in (nI s) 8 := vp_in_nI (by omega) (by omega)
  have cb : (nI b).toNatClampNeg = b := nI_clamp (by omega)
  have cs : (nI s).toNatClampNeg = s := nI_clamp (by omega)
  by_cases ne : nI b = nI s
  · exact br_t ne (J _)
  have ne' : b ≠ s := fun z => ne (by rw [z])
  refine br_f ne ⟨b8, ?_⟩
  by_cases sb : st (nI b).toNatClampNeg = 0
  case neg => exact br_f sb (J _)
  refine br_t sb ⟨s8, ?_⟩
  by_cases ss : st (nI s).toNatClampNeg = 0
  case neg => exact br_f ss (J _)
  refine br_t ss ?_
  rcases ch_sort v3 (n := N) (by omega) with f | ⟨f, f'⟩ | ⟨i, hi', rfl, f, f'⟩
  · exact br_t f (br_t rfl (J _))
  · exact br_f f (br_t f' (br_t rfl (J _)))
  refine br_f f (br_f f' (br_f ch_n10 ?_))
  have i4 : vp_in (nI i) 4 := vp_in_nI (by omega) (by omega)
  have ci : (nI i).toNatClampNeg = i := nI_clamp (by omega)
  have tb : vp_in (nI b * 4 + nI i) 32 := by rw [ch_slot]; exact vp_in_nI (by omega) (by omega)
  have ts : vp_in (nI s * 4 + nI i) 32 := by rw [ch_slot]; exact vp_in_nI (by omega) (by omega)
  have cB : (nI b * 4 + nI i).toNatClampNeg = b * 4 + i := by rw [ch_slot]; exact nI_clamp (by omega)
  have cS : (nI s * 4 + nI i).toNatClampNeg = s * 4 + i := by rw [ch_slot]; exact nI_clamp (by omega)
  by_cases q0 : v4 < 1
  · exact br_t q0 (J _)
  refine br_f q0 ?_
  by_cases q1 : v4 ≤ 1000
  case neg => exact br_f q1 (J _)
  have am := ch_amt (c := 1000) (by decide) q0 q1
  have pbB := ch_pbB (st := st) hM
  have ob := ho (b * 4 + i)
  have os := ho (s * 4 + i)
  unfold ch_ab at ob os
  have xA : ps (nI b * 4 + nI i).toNatClampNeg + v4 = ps (b * 4 + i) + v4 := by rw [cB]
  have xB : ps (nI s * 4 + nI i).toNatClampNeg - v4 = ps (s * 4 + i) - v4 := by rw [cS]
  have tA : (ps (b * 4 + i) + v4).toInt = (ps (b * 4 + i)).toInt + v4.toInt := ch_addI (by omega) (by omega)
  have tB : (ps (s * 4 + i) - v4).toInt = (ps (s * 4 + i)).toInt - v4.toInt := ch_subI (by omega) (by omega)
  generalize ps (b * 4 + i) + v4 = A at xA tA
  generalize ps (s * 4 + i) - v4 = B at xB tB
  refine br_t q1 ⟨tb, nm_r xA ⟨ts, nm_r xB ?_⟩⟩
  by_cases a1 : A < -10000
  · exact br_t a1 (br_t rfl (J _))
  by_cases a2 : 10000 < A
  · exact br_f a1 (br_t a2 (br_t rfl (J _)))
  refine br_f a1 (br_f a2 (br_f ch_n10 ?_))
  by_cases c1 : B < -10000
  · exact br_t c1 (br_t rfl (J _))
  by_cases c2 : 10000 < B
  · exact br_f c1 (br_t c2 (br_t rfl (J _)))
  refine br_f c1 (br_f c2 (br_f ch_n10 ?_))
  have dd := ch_dif (hr i (by omega)).2 (hr i (by omega)).1
  have D : ch_aL 100000000 (v4.toInt64 * (se i - cu i).toInt64) := ch_aLmul (A := 1000) (B := 100000) ⟨by omega, by omega⟩ dd.2 (by omega) (by omega)
  have d1 : v4.toInt64 * (se (nI i).toNatClampNeg - cu (nI i).toNatClampNeg).toInt64 = v4.toInt64 * (se i - cu i).toInt64 := by rw [ci]
  generalize v4.toInt64 * (se i - cu i).toInt64 = dv at d1 D
  have Q : ch_Ca (k + 5) (vp_updL (vp_updL ca b (ca b + dv)) s (vp_updL ca b (ca b + dv) s - dv)) := by
    rw [ch_uLn (fun z => ne' z.symm)]
    intro j
    refine ch_uLAll (P := ch_aL (10000000000000 * ((k + 5 : Nat) : Int))) (ch_uLAll (P := ch_aL (10000000000000 * ((k + 5 : Nat) : Int))) (fun i => ch_aLM (ha i) (by omega)) ?_) ?_ j
    · exact ch_aLM (ch_aLadd (ha b) D (by omega)) (by omega)
    · exact ch_aLM (ch_aLsub (ha s) D (by omega)) (by omega)
  have u1 : upd ps (nI b * 4 + nI i).toNatClampNeg A = upd ps (b * 4 + i) A := by rw [cB]
  have u2 : upd (upd ps (b * 4 + i) A) (nI s * 4 + nI i).toNatClampNeg B = upd (upd ps (b * 4 + i) A) (s * 4 + i) B := by rw [cS]
  have e1 : vp_updL ca (nI b).toNatClampNeg (ca (nI b).toNatClampNeg + dv) = vp_updL ca b (ca b + dv) := by rw [cb]
  have e2 : vp_updL (vp_updL ca b (ca b + dv)) (nI s).toNatClampNeg (vp_updL ca b (ca b + dv) (nI s).toNatClampNeg - dv) = vp_updL (vp_updL ca b (ca b + dv)) s (vp_updL ca b (ca b + dv) s - dv) := by rw [cs]
  have cv : H + ch_sL (vp_updL (vp_updL ca b (ca b + dv)) s (vp_updL ca b (ca b + dv) s - dv)) M + ch_sL fu M = E := by
    rw [ch_sLu, if_pos hs', ch_sLu, if_pos hb', ← he]; grind
  exact ⟨tb, nm_r u1 ⟨ts, nm_r u2 ⟨i4, i4, nm_r d1 ⟨b8, b8, nm_r e1 ⟨s8, s8, nm_r e2 (hq _ _ (cp_mk ⟨hc, hp, hi, ch_FdU hf (by omega), Q, ch_PoU hM (ch_PoU (s := b * 4 + i) hM ho (ch_limB a1 a2)) (s := s * 4 + i) (ch_limB c1 c2), hr, cp_ZsT hb' hs' ne' (by omega) hN tA tB hz, cv, hs⟩))⟩⟩⟩⟩⟩
theorem cp_vmS (hN : N ≤ 4) (hz : cp_Zs M N ps) : ∀ n, n ≤ N → ch_sL (fun j => ch_vm ps cu se j n) M = 0 := by
  intro n
  induction n with
  | zero =>
    intro _
    have : ∀ m, ch_sL (fun _ => (0 : Int64)) m = 0 := by
      intro m
      induction m with
      | zero => rfl
      | succ m ih => show ch_sL (fun _ => (0 : Int64)) m + 0 = 0; rw [ih]; rfl
    exact this M
  | succ n ih =>
    intro hn
    show ch_sL (fun j => ch_vm ps cu se j n + (ps (j * 4 + n)).toInt64 * (cu n - se n).toInt64) M = 0
    rw [ch_sLa, ih (by omega), ch_sLc (g := fun j => ch_L ((ps (j * 4 + n)).toInt * (cu n - se n).toInt)) M (fun j _ => by rw [ch_Li, ch_Li, ch_Lmul]), ch_sIL, ch_sIm, hz n (by omega), Int.zero_mul]
    decide
theorem cp_settle {u : St2} {post : Int32 → St2 → Prop} (I : cp_RX k M N R E u) (hk : k + 5 ≤ 2564) (hq : ∀ r u', cp_RX (k + 5) M N R E u' → post r u') : wpX_settle post u := by
  have J := fun r => hq r _ (cp_up I (show k ≤ k + 5 by omega))
  obtain ⟨H, fd, st, ca, fu, mc, hb, ba, ps, cu, se, wf, pa, rfl, hc, hp, hi, hf, ha, ho, hr, hz, he, hs⟩ := I
  have hM := hc.1.2
  have hN := hc.2.1.2
  by_cases f0 : fd = -1
  case neg => exact br_f f0 (br_f ch_n10 (J _))
  have Q : ch_Ca (k + 5) (ch_cs ps cu se N ca M) := by
    intro j
    rw [ch_csE]
    split
    · exact ch_aLM (ch_aLadd (ha j) (ch_vmB hM ho hr N hN) (by omega)) (by omega)
    · exact ch_aLM (ha j) (by omega)
  have P : ch_Pr cu (ch_sl cu se N) := by
    intro j hj
    rw [ch_slE]
    split
    · exact ⟨(hr j hj).1, (hr j hj).1⟩
    · exact hr j hj
  have S : ch_sL (ch_cs ps cu se N ca M) M = ch_sL ca M := by
    rw [ch_sLc (g := fun j => ca j + ch_vm ps cu se j N) M (fun j hj => by rw [ch_csE, if_pos hj]), ch_sLa, cp_vmS hN hz N (Nat.le_refl _)]
    exact Int64.add_zero _
  refine br_t f0 (br_t rfl ⟨M + 1, ch_xS1 hM hN ⟨N + 1, ch_xS2 hN (hq _ _ (cp_mk ⟨hc, hp, hi, ch_FdU hf (by omega), Q, ho, P, hz, by rw [S]; exact he, hs⟩)) N 0 (by omega)⟩ M 0 (by omega)⟩)
theorem cp_callMargins {u : St2} {post : Int32 → St2 → Prop} (I : cp_RX k M N R E u) (hq : ∀ r u', cp_RX (k + 5) M N R E u' → post r u') : wpX_callMargins post u := by
  have J := fun r => hq r _ (cp_up I (show k ≤ k + 5 by omega))
  obtain ⟨H, fd, st, ca, fu, mc, hb, ba, ps, cu, se, wf, pa, rfl, hc, hp, hi, hf, ha, ho, hr, hz, he, hs⟩ := I
  have hM := hc.1.2
  have hN := hc.2.1.2
  by_cases f0 : fd = -1
  case neg => exact br_f f0 (br_f ch_n10 (J _))
  exact br_t f0 (br_t rfl ⟨M + 1, ch_xCM hM hN hc.2.2 hr (hq _ _ (cp_mk ⟨hc, hp, hi, ch_FdU hf (by omega), ch_CaU ha (by omega), ho, hr, hz, he, hs⟩)) M 0 (by omega)⟩)
theorem cp_caE : ∀ n, 0 < ch_ca st n → ∃ j, j < n ∧ st j = 0 := by
  intro n
  induction n with
  | zero => intro h; exact absurd h (Nat.lt_irrefl 0)
  | succ n ih =>
    intro h
    by_cases s0 : st n = 0
    · exact ⟨n, Nat.lt_succ_self n, s0⟩
    · have : ch_ca st (n + 1) = ch_ca st n := congrArg (ch_ca st n + ·) (if_neg s0)
      rw [this] at h
      obtain ⟨j, a, b⟩ := ih h
      exact ⟨j, by omega, b⟩
theorem cp_coE2 {m : Nat} : ∀ n, 0 < ch_co st m n → ∃ j, j < n ∧ j ≠ m ∧ st j = 0 := by
  intro n
  induction n with
  | zero => intro h; exact absurd h (Nat.lt_irrefl 0)
  | succ n ih =>
    intro h
    by_cases s0 : n ≠ m ∧ st n = 0
    · exact ⟨n, Nat.lt_succ_self n, s0⟩
    · have : ch_co st m (n + 1) = ch_co st m n := congrArg (ch_co st m n + ·) (if_neg s0)
      rw [this] at h
      obtain ⟨j, a, b⟩ := ih h
      exact ⟨j, by omega, b⟩
theorem cp_declare {u : St2} {v1 : Int32} {post : Int32 → St2 → Prop} (I : cp_RX k M N R E u) (hq : ∀ r u', cp_RX (k + 5) M N R E u' → post r u') : wpX_declareDefault post u v1 := by
  have J := fun r => hq r _ (cp_up I (show k ≤ k + 5 by omega))
  obtain ⟨H, fd, st, ca, fu, mc, hb, ba, ps, cu, se, wf, pa, rfl, hc, hp, hi, hf, ha, ho, hr, hz, he, hs⟩ := I
  have hM := hc.1.2
  rcases id hp with ⟨f0, hn⟩ | ⟨d, hd, e, h1, hn⟩
  case inr =>
    have z : ¬ fd = -1 := by rw [e]; exact ch_ne1 (by omega)
    exact br_f z (br_f ch_n10 (J _))
  refine br_t f0 (br_t rfl ?_)
  rcases ch_sort v1 (n := M) (by omega) with h | ⟨h, h'⟩ | ⟨m, hm, rfl, h, h'⟩
  · exact br_t h (br_t rfl (J _))
  · exact br_f h (br_t h' (br_t rfl (J _)))
  have i8 : vp_in (nI m) 8 := vp_in_nI (by omega) (by omega)
  have c8 : (nI m).toNatClampNeg = m := nI_clamp (by omega)
  refine br_f h (br_f h' (br_f ch_n10 ⟨i8, ?_⟩))
  by_cases s0 : st (nI m).toNatClampNeg = 0
  case neg => exact br_f s0 (J _)
  refine br_t s0 ⟨i8, ?_⟩
  by_cases c0 : mc (nI m).toNatClampNeg ≤ 0
  · exact br_t c0 (J _)
  refine br_f c0 (ch_xSC hM ?_)
  have s1 : st m = 0 := by rw [← c8]; exact s0
  have CE := ch_coE s1 M
  rw [if_pos hm] at CE
  have CB := ch_caB st M
  by_cases q : ch_co st m M = 0
  · exact br_f (nI_ge (b := 2) (by omega) (by decide)) (J _)
  · have PH : ch_Ph M (nI m) (upd st m 1) := Or.inr ⟨m, hm, rfl, ch_us, fun j hj hne => by rw [ch_un hne]; exact hn j hj⟩
    have PO : ch_Po M (upd st m 1) ps := by
      intro s
      have := ho s
      unfold ch_pb at this ⊢
      rw [ch_cdN (by rw [s1]; decide) (by decide)]
      exact this
    have SV : cp_Sv M (nI m) (upd st m 1) := by
      obtain ⟨j, a, b, c⟩ := cp_coE2 (st := st) (m := m) M (by omega)
      exact Or.inr ⟨j, a, by rw [ch_un b]; exact c⟩
    exact br_t (nI_le (a := 2) (by omega) (by omega)) ⟨i8, nm_r (e' := upd st m 1) (by rw [c8]) ⟨i8, nm_r (e' := vp_updL mc m 0) (by rw [c8]) (ch_xCB hM hi.1 (hq _ _ (cp_mk ⟨hc, PH, ⟨fun j _ => rfl, fun j hj => absurd rfl hj⟩, ch_FdU hf (by omega), ch_CaU ha (by omega), PO, hr, hz, he, SV⟩)))⟩⟩
end CPA
end
section
section CPB
/-! the auction's end keeps sums and money -/
variable {k M N R : Nat} {E : Int64} {H : Int64} {fd : Int32} {st : Nat → Int32} {ca fu mc : Nat → Int64} {hb ba : Nat → Int32} {ps cu se : Nat → Int32} {wf pa : Nat → Int64}
theorem cp_c2S {d : Nat} (hd : d < M) : ch_sL (ch_c2 ca d) M = ch_sL ca M + ch_ls (ca d) := by
  unfold ch_c2 ch_ls
  by_cases c : 0 ≤ ca d
  · rw [if_pos c, if_pos c]; exact (Int64.add_zero _).symm
  · rw [if_neg c, if_neg c, ch_sLu, if_pos hd]; grind
theorem cp_f3S {r : Int64} (hM : M ≤ 8) (hk : k ≤ 2564) (hf : ch_Fd k fu) (hr : 0 ≤ r.toInt) : ch_sL (ch_f3 st fu M r) M = ch_sL fu M - ch_t3 st fu M r := by
  obtain ⟨FB, fB⟩ := ch_fsL (st := st) hM hk hf
  have fe := ch_fnE hf
  by_cases c : r < lN (ch_fs st (ch_fn fu) M)
  · have er := ch_rN hr
    have rB : r.toInt.toNat < ch_fs st (ch_fn fu) M := by
      have := c
      rw [er, pk_lLT (by have := r.toInt_lt; omega) (by omega)] at this
      exact this
    have e3 : ch_t3 st fu M r = r := if_pos c
    rw [e3, ch_sLc (g := fun j => fu j - lN (ch_g st (ch_fn fu) r.toInt.toNat (ch_fs st (ch_fn fu) M) M j)) M (fun j hj => by
      unfold ch_f3; rw [if_pos c, if_pos hj]), ch_sLs, ch_sNL, ch_gSum (by omega), ← er]
  · have e3 : ch_t3 st fu M r = lN (ch_fs st (ch_fn fu) M) := if_neg c
    have key : ∀ n, ch_sL (fun j => if st j = 0 then 0 else fu j) n = ch_sL fu n - lN (ch_fs st (ch_fn fu) n) := by
      intro n
      induction n with
      | zero => exact (by decide : (0 : Int64) = 0 - lN 0)
      | succ n ih =>
        show ch_sL (fun j => if st j = 0 then 0 else fu j) n + (if st n = 0 then 0 else fu n) = ch_sL fu n + fu n - lN (ch_fs st (ch_fn fu) n + (if st n = 0 then ch_fn fu n else 0))
        rw [ih, ← lN_add]
        by_cases s0 : st n = 0
        · rw [if_pos s0, if_pos s0, ← fe n]; grind
        · rw [if_neg s0, if_neg s0, show lN 0 = 0 from rfl]; grind
    rw [e3, ← key M]
    exact ch_sLc M (fun j hj => by
      unfold ch_f3
      rw [if_neg c]
      by_cases s0 : st j = 0
      · rw [if_pos ⟨hj, s0⟩, if_pos s0]
      · rw [if_neg (fun y => s0 y.2), if_neg s0])
theorem cp_consC {d : Nat} (hM : M ≤ 8) (hk : k ≤ 2564) (hd : d < M) (hf : ch_Fd k fu) (hl : 0 ≤ (ch_ls (ca d)).toInt) : ch_H3 st H fu M d (ch_ls (ca d)) + ch_sL (ch_c2 ca d) M + ch_sL (ch_F3 st H fu M d (ch_ls (ca d))) M = H + ch_sL ca M + ch_sL fu M := by
  have a := cp_c2S (ca := ca) hd
  have b := cp_f3S (st := st) (k := k) hM hk (ch_f2B (d := d) hl hf) (ch_r2B (H := H) hl (hf d).1)
  have c : ch_sL (ch_f2 fu d (ch_ls (ca d))) M = ch_sL fu M - ch_t1 (ch_ls (ca d)) (fu d) := by
    unfold ch_f2
    rw [ch_sLu, if_pos hd]; grind
  have e : ch_sL (ch_F3 st H fu M d (ch_ls (ca d))) M = ch_sL fu M - ch_t1 (ch_ls (ca d)) (fu d) - ch_T3 st H fu M d (ch_ls (ca d)) := by
    rw [← c]; exact b
  rw [a, e]
  unfold ch_H3 ch_T4 ch_r2 ch_r1
  generalize ch_ls (ca d) = l
  generalize ch_T3 st H fu M d l = t3
  generalize ch_t2 H (l - ch_t1 l (fu d)) = t2
  generalize ch_t1 l (fu d) = t1
  grind
theorem cp_seZ {w d : Nat} {B : Int} (hw : w < M) (hd : d < M) (hne : w ≠ d) (hB : 0 ≤ B ∧ B ≤ 2560000) (ho : ∀ s, ch_ab B (ps s)) (hz : cp_Zs M N ps) :
    ∀ n, n ≤ 4 → (∀ i, i < n → i < N → ch_sI (fun m => (ch_se w d ps n (m * 4 + i)).toInt) M = 0) ∧ (∀ i, n ≤ i → i < 4 → ∀ m, ch_se w d ps n (m * 4 + i) = ps (m * 4 + i)) := by
  intro n
  induction n with
  | zero => intro _; exact ⟨fun i h => absurd h (Nat.not_lt_zero _), fun i _ _ m => rfl⟩
  | succ n ih =>
    intro hn
    obtain ⟨I1, I2⟩ := ih (by omega)
    have other : ∀ i m, i < 4 → i ≠ n → ch_se w d ps (n + 1) (m * 4 + i) = ch_se w d ps n (m * 4 + i) := by
      intro i m hi hin
      show upd (upd (ch_se w d ps n) (w * 4 + n) _) (d * 4 + n) 0 (m * 4 + i) = _
      rw [ch_un (by omega), ch_un (by omega)]
    refine ⟨fun i hi hiN => ?_, fun i hi hi4 m => ?_⟩
    · by_cases q : i = n
      · subst q
        have E1 : ∀ m, m < M → (ch_se w d ps (i + 1) (m * 4 + i)).toInt = ((ps (m * 4 + i)).toInt + (if m = w then (ps (d * 4 + i)).toInt else 0)) + (if m = d then -(ps (d * 4 + i)).toInt else 0) := by
          intro m _
          show (upd (upd (ch_se w d ps i) (w * 4 + i) (ch_se w d ps i (w * 4 + i) + ch_se w d ps i (d * 4 + i))) (d * 4 + i) 0 (m * 4 + i)).toInt = _
          by_cases c : m = d
          · subst c
            rw [ch_us, if_pos rfl, if_neg (fun y => hne y.symm), show (0 : Int32).toInt = 0 from by decide]; omega
          · rw [ch_un (by omega), if_neg c]
            by_cases e : m = w
            · subst e
              have a := ho (m * 4 + i)
              have b := ho (d * 4 + i)
              unfold ch_ab at a b
              rw [ch_us, if_pos rfl, I2 i (Nat.le_refl _) (by omega) m, I2 i (Nat.le_refl _) (by omega) d, ch_addI (by omega) (by omega)]; omega
            · rw [ch_un (by omega), if_neg e, I2 i (Nat.le_refl _) (by omega) m]; omega
        rw [ch_sIc M E1, ch_sIa, ch_sIa, hz i hiN, ch_sI1, ch_sI1, if_pos hw, if_pos hd]; omega
      · rw [ch_sIc (g := fun m => (ch_se w d ps n (m * 4 + i)).toInt) M (fun m _ => by
          show (ch_se w d ps (n + 1) (m * 4 + i)).toInt = _
          rw [other i m (by omega) q])]
        exact I1 i (by omega) hiN
    · rw [other i m hi4 (by omega)]; exact I2 i (by omega) hi4 m
theorem cp_GS {f : Nat → Nat} {q : Int32} (hv : ∃ j, j < M ∧ st j = 0) (h : ch_ab 2560000 q) (hfF : ∀ j, j < M → st j = 0 → f j ≤ ch_fs st f M) : ch_sI (fun m => (ch_G st f (ch_fs st f M) M q m).toInt) M = q.toInt := by
  have a := h.1
  have b := h.2
  have z0 : (0 : Int32).toInt = 0 := by decide
  by_cases c : ch_fs st f M = 0
  · cases fa : ch_fa st M with
    | none =>
      obtain ⟨j, hj, hs⟩ := hv
      exact absurd hs (ch_faN M fa j hj)
    | some s =>
      have sb := ch_faS M s fa
      rw [ch_sIc (g := fun m => if m = s then q.toInt else 0) M (fun m _ => by
        show (ch_G st f (ch_fs st f M) M q m).toInt = _
        unfold ch_G
        rw [if_pos c, fa]
        by_cases e : m = s
        · rw [e, if_pos rfl, if_pos rfl]
        · rw [if_neg (fun y => e (Option.some.inj y).symm), if_neg e, z0]), ch_sI1, if_pos sb.1]
  · have G := ch_gSum (st := st) (f := f) (A := q.toInt.natAbs) (M := M) (by omega)
    have GI := ch_sNI (ch_g st f q.toInt.natAbs (ch_fs st f M) M) M
    rw [G] at GI
    have tb : ∀ m, m < M → (nI (ch_g st f q.toInt.natAbs (ch_fs st f M) M m)).toInt = (ch_g st f q.toInt.natAbs (ch_fs st f M) M m : Int) := by
      intro m hm
      have := ch_gA (st := st) (f := f) (A := q.toInt.natAbs) (F := ch_fs st f M) hm (hfF m hm)
      exact nI_toInt (by omega)
    by_cases y : 0 ≤ q
    · have y' := Int32.le_iff_toInt_le.mp y
      rw [ch_sIc (g := fun m => (ch_g st f q.toInt.natAbs (ch_fs st f M) M m : Int)) M (fun m hm => by
        show (ch_G st f (ch_fs st f M) M q m).toInt = _
        unfold ch_G
        rw [if_neg c, if_pos y, Int32.one_mul, tb m hm]), GI]
      omega
    · have y' : ¬ 0 ≤ q.toInt := fun z => y (Int32.le_iff_toInt_le.mpr (by omega))
      rw [ch_sIc (g := fun m => (ch_g st f q.toInt.natAbs (ch_fs st f M) M m : Int) * (-1)) M (fun m hm => by
        show (ch_G st f (ch_fs st f M) M q m).toInt = _
        have gb := ch_gA (st := st) (f := f) (A := q.toInt.natAbs) (F := ch_fs st f M) hm (hfF m hm)
        have e : (-1 : Int32) * nI (ch_g st f q.toInt.natAbs (ch_fs st f M) M m) = ch_I (-(ch_g st f q.toInt.natAbs (ch_fs st f M) M m : Int)) := by
          rw [ch_In, show (-1 : Int32) = ch_I (-1) from by decide, ch_Imul]
          congr 1; omega
        unfold ch_G
        rw [if_neg c, if_neg y, e, ch_IT (by omega) (by omega)]; omega), ch_sIm, GI]
      omega
theorem cp_aaZ {f : Nat → Nat} {d : Nat} {B : Int} (hd : d < M) (h1 : ¬ st d = 0) (hv : ∃ j, j < M ∧ st j = 0) (hB : 0 ≤ B ∧ B ≤ 2560000) (ho : ∀ s, ch_ab B (ps s)) (hz : cp_Zs M N ps) :
    ∀ n, n ≤ 4 → (∀ i, i < n → i < N → ch_sI (fun m => (ch_aa (ch_G st f (ch_fs st f M) M) M d ps n (m * 4 + i)).toInt) M = 0) ∧ (∀ i, n ≤ i → i < 4 → ∀ m, ch_aa (ch_G st f (ch_fs st f M) M) M d ps n (m * 4 + i) = ps (m * 4 + i)) := by
  have hfF : ∀ j, j < M → st j = 0 → f j ≤ ch_fs st f M := fun j hj hs => ch_fsGe hj hs
  have Gd : ∀ q, ch_G st f (ch_fs st f M) M q d = 0 := by
    intro q
    unfold ch_G
    split
    · split
      · next y => exact absurd (ch_faS M d y).2.1 h1
      · rfl
    · rw [ch_gN h1]; exact Int32.mul_zero
  intro n
  induction n with
  | zero => intro _; exact ⟨fun i h => absurd h (Nat.not_lt_zero _), fun i _ _ m => rfl⟩
  | succ n ih =>
    intro hn
    obtain ⟨I1, I2⟩ := ih (by omega)
    have other : ∀ i m, i < 4 → i ≠ n → ch_aa (ch_G st f (ch_fs st f M) M) M d ps (n + 1) (m * 4 + i) = ch_aa (ch_G st f (ch_fs st f M) M) M d ps n (m * 4 + i) := by
      intro i m hi hin
      show upd (ch_al _ n (ch_aa (ch_G st f (ch_fs st f M) M) M d ps n) M) (d * 4 + n) 0 (m * 4 + i) = _
      rw [ch_un (by omega), ch_alE (by omega), if_neg (fun y => by have := y.1; omega)]
    refine ⟨fun i hi hiN => ?_, fun i hi hi4 m => ?_⟩
    · by_cases q : i = n
      · subst q
        have od := ch_abM (ho (d * 4 + i)) hB.2
        have S := cp_GS (f := f) hv od hfF
        have E1 : ∀ m, m < M → (ch_aa (ch_G st f (ch_fs st f M) M) M d ps (i + 1) (m * 4 + i)).toInt = ((ps (m * 4 + i)).toInt + (ch_G st f (ch_fs st f M) M (ps (d * 4 + i)) m).toInt) + (if m = d then -(ps (d * 4 + i)).toInt else 0) := by
          intro m hm
          show (upd (ch_al (ch_G st f (ch_fs st f M) M (ch_aa (ch_G st f (ch_fs st f M) M) M d ps i (d * 4 + i))) i (ch_aa (ch_G st f (ch_fs st f M) M) M d ps i) M) (d * 4 + i) 0 (m * 4 + i)).toInt = _
          by_cases c : m = d
          · subst c
            rw [ch_us, if_pos rfl, Gd, show (0 : Int32).toInt = 0 from by decide]; omega
          · have e4 : (m * 4 + i) / 4 = m := by omega
            rw [ch_un (by omega), if_neg c, ch_alE (by omega), if_pos ⟨by omega, by omega⟩, e4, I2 i (Nat.le_refl _) (by omega) m, I2 i (Nat.le_refl _) (by omega) d]
            have a := ho (m * 4 + i)
            have b := ch_GB hfF hB.2 _ (ho (d * 4 + i)) m hm
            unfold ch_ab at a b
            rw [ch_addI (by omega) (by omega)]; omega
        rw [ch_sIc M E1, ch_sIa, ch_sIa, hz i hiN, ch_sI1, if_pos hd, S]; omega
      · rw [ch_sIc (g := fun m => (ch_aa (ch_G st f (ch_fs st f M) M) M d ps n (m * 4 + i)).toInt) M (fun m _ => by
          show (ch_aa (ch_G st f (ch_fs st f M) M) M d ps (n + 1) (m * 4 + i)).toInt = _
          rw [other i m (by omega) q])]
        exact I1 i (by omega) hiN
    · rw [other i m hi4 (by omega)]; exact I2 i (by omega) hi4 m
theorem cp_inv2 {d : Nat} {ca1 : Nat → Int64} {ps1 : Nat → Int32} (hc : ch_Cn M N R) (hk : k + 5 ≤ 2564) (hd : d < M) (h1 : st d = 1) (hn : ∀ j, j < M → j ≠ d → ¬ st j = 1) (hf : ch_Fd k fu) (hl : 0 ≤ (ch_ls (ca1 d)).toInt) (ha : ch_Ca (k + 5) ca1) (ho : ∀ s, ch_ab (2 * ch_pb st M) (ps1 s)) (hr : ch_Pr cu se) (hz : cp_Zs M N ps1) (he : H + ch_sL ca1 M + ch_sL fu M = E) :
    cp_IX (k + 5) M N R E (ch_H3 st H fu M d (ch_ls (ca1 d))) (-1) (upd st d 2) (ch_c2 ca1 d) (ch_F3 st H fu M d (ch_ls (ca1 d))) (fun _ => 0) ba ps1 cu se := by
  refine ⟨hc, Or.inl ⟨rfl, fun j hj => ?_⟩, ⟨fun j _ => rfl, fun j hj => absurd rfl hj⟩, ?_, ch_c2B ha, fun s => ?_, hr, hz, ?_, Or.inl rfl⟩
  · by_cases q : j = d
    · rw [q, ch_us]; decide
    · rw [ch_un q]; exact hn j hj q
  · exact ch_FdU (ch_f3B hc.1.2 (by omega) (ch_f2B hl hf) (ch_r2B hl (hf d).1)) (by omega)
  · have e : ch_pb (upd st d 2) M = 2 * ch_pb st M := by
      unfold ch_pb
      rw [ch_cdS (by rw [h1]; decide) M hd, Nat.pow_succ]
      omega
    rw [e]; exact ho s
  · rw [cp_consC (k := k) hc.1.2 (by omega) hd hf hl]; exact he
theorem cp_close {u : St2} {post : Int32 → St2 → Prop} (I : cp_RX k M N R E u) (hk : k + 5 ≤ 2564) (hq : ∀ r u', cp_RX (k + 5) M N R E u' → post r u') : wpX_closeAuction post u := by
  have J := fun r => hq r _ (cp_up I (show k ≤ k + 5 by omega))
  obtain ⟨H, fd, st, ca, fu, mc, hb, ba, ps, cu, se, wf, pa, rfl, hc, hp, hi, hf, ha, ho, hr, hz, he, hs⟩ := I
  have hM := hc.1.2
  have hN := hc.2.1.2
  rcases id hp with ⟨e, hn⟩ | ⟨d, hd, e, h1, hn⟩
  · exact br_t e (br_t rfl (J _))
  subst e
  have z : ¬ nI d = -1 := ch_ne1 (by omega)
  have hv : ∃ j, j < M ∧ st j = 0 := by
    rcases hs with q | q
    · exact absurd q z
    · exact q
  have pbB := ch_pbB (st := st) hM
  have fB := (ch_fsL (st := st) hM (by omega) hf).2
  have d0 : ¬ st d = 0 := by rw [h1]; decide
  refine br_f z (br_f ch_n10 (ch_xHB hM ?_))
  cases eb : ch_bs hb ba M with
  | none =>
    have c0 : -9000000000000000000 ≤ (ca d).toInt := by have := (ha d).1; omega
    have C := ch_colAll (by omega) (ch_aaCol (G := ch_G st (ch_fn fu) (ch_fs st (ch_fn fu) M) M) (M := M) (d := d) (B := ch_pb st M) (by omega) (by omega) (fun q h m hm => ch_GB (fun j hj hs => ch_fsGe hj hs) pbB.2 q h m hm) ho N hN)
    have Z : cp_Zs M N (ch_aa (ch_G st (ch_fn fu) (ch_fs st (ch_fn fu) M) M) M d ps N) := fun i hi => (cp_aaZ (f := ch_fn fu) (B := ch_pb st M) hd d0 hv ⟨by omega, by omega⟩ ho hz N hN).1 i hi hi
    refine br_t rfl (ch_xAl (f := ch_fn fu) (B := ch_pb st M) hM hN (by omega) (ch_fnE hf) fB ⟨by omega, by omega⟩ ho (fun pa' => ?_))
    exact ch_x49 (k := k) hM (by omega) (by omega) hf c0 hi.1 (fun a => hq _ _ (cp_mk (cp_inv2 hc hk hd h1 hn hf (ch_lsB c0) (ch_CaU ha (by omega)) C hr Z he)))
  | some w =>
    have wb := ch_bsB M w eb
    have hw := hi.2 w wb.2
    have hwd : w ≠ d := fun y => d0 (by rw [← y]; exact hw.1)
    have ca1 := ch_seC (d := d) (w := w) (x := ba w) hk ha hw.2
    have c0 : -9000000000000000000 ≤ (vp_updL (vp_updL ca w (ca w - (ba w).toInt64)) d (vp_updL ca w (ca w - (ba w).toInt64) d + (ba w).toInt64) d).toInt := by have := (ca1 d).1; omega
    have C := ch_colAll (by omega) (ch_seCol (w := w) (d := d) (B := ch_pb st M) (by omega) (by omega) ho N hN)
    have Z : cp_Zs M N (ch_se w d ps N) := fun i hi => (cp_seZ (B := ch_pb st M) wb.1 hd hwd ⟨by omega, by omega⟩ ho hz N hN).1 i hi hi
    have w8 : vp_in (nI w) 8 := vp_in_nI (by omega) (by omega)
    have cw : (nI w).toNatClampNeg = w := nI_clamp (by omega)
    have cv : H + ch_sL (vp_updL (vp_updL ca w (ca w - (ba w).toInt64)) d (vp_updL ca w (ca w - (ba w).toInt64) d + (ba w).toInt64)) M + ch_sL fu M = E := by
      rw [ch_sLu, if_pos hd, ch_sLu, if_pos wb.1, ← he]; grind
    refine br_f (ch_ne2 (a := w) (by omega)) ⟨w8, nm_r (e' := ba w) (by show ba (nI w).toNatClampNeg = ba w; rw [cw]) ?_⟩
    refine ch_xSe (d := d) (w := w) hN (by omega) (by omega) ?_
    exact ch_x49 (k := k) hM (by omega) (by omega) hf c0 hi.1 (fun a => hq _ _ (cp_mk (cp_inv2 hc hk hd h1 hn hf (ch_lsB c0) ca1 C hr Z cv)))
end CPB
end
section
section CPC
/-! the law's own walks -/
variable {k M N R : Nat} {E : Int64} {H : Int64} {fd : Int32} {st : Nat → Int32} {ca fu mc : Nat → Int64} {hb ba : Nat → Int32} {ps cu se : Nat → Int32} {wf pa : Nat → Int64}
theorem cp_gP {post : Int32 → Prop} {m i : Nat} (hM : M ≤ 8) (hN : N ≤ 4) (hm : m < M) (hi : i < N) (hp : post (ps (m * 4 + i))) : wpX_getPosition post ((nI M), (nI N), (nI R), H, fd, st, ca, fu, mc, hb, ba, ps, cu, se, wf, pa) (nI m) (nI i) := by
  refine br_f (nI_pos (by omega)) (br_f (nI_ge hm (by omega)) (br_f ch_n10 (br_f (nI_pos (by omega)) (br_f (nI_ge hi (by omega)) (br_f ch_n10 (ch_xSlot ⟨vp_in_nI (by omega) (by omega), ?_⟩))))))
  rw [nI_clamp (by omega)]
  exact hp
theorem cp_gC {post : Int64 → Prop} {m : Nat} (hM : M ≤ 8) (hm : m < M) (hp : post (ca m)) : wpX_getBalance post ((nI M), (nI N), (nI R), H, fd, st, ca, fu, mc, hb, ba, ps, cu, se, wf, pa) (nI m) 0 := by
  refine br_f (nI_pos (by omega)) (br_f (nI_ge hm (by omega)) (br_f ch_n10 (br_t rfl (br_f ch_n10 (br_t rfl ⟨vp_in_nI (by omega) (by omega), ?_⟩)))))
  rw [nI_clamp (by omega)]
  exact hp
theorem cp_gF {post : Int64 → Prop} {m : Nat} (hM : M ≤ 8) (hm : m < M) (hp : post (fu m)) : wpX_getBalance post ((nI M), (nI N), (nI R), H, fd, st, ca, fu, mc, hb, ba, ps, cu, se, wf, pa) (nI m) 1 := by
  refine br_f (nI_pos (by omega)) (br_f (nI_ge hm (by omega)) (br_f ch_n10 (br_f ch_n10 (br_t rfl (br_f ch_n10 (br_f ch_n10 ⟨vp_in_nI (by omega) (by omega), ?_⟩))))))
  rw [nI_clamp (by omega)]
  exact hp
theorem cp_holds {u : St2} {post : Int32 → Prop} (I : cp_RX k M N R E u) (hp : post 1) : wpL_holds post u (nI M) (nI N) E := by
  obtain ⟨H, fd, st, ca, fu, mc, hb, ba, ps, cu, se, wf, pa, rfl, hc, _, _, _, _, _, _, hz, he, _⟩ := I
  have hM := hc.1.2
  have hN := hc.2.1.2
  have L65 : ∀ n m, m + n = M → wL_holds_65 post (nI M) E (nI M) (nI N) (nI R) H fd st ca fu mc hb ba ps cu se wf pa (n + 1) (H + ch_sL ca m + ch_sL fu m) (nI m) := by
    intro n
    induction n with
    | zero =>
      intro m hm
      obtain rfl : m = M := by omega
      exact br_t (Int32.le_refl _) (br_t he hp)
    | succ n ih =>
      intro m hm
      refine br_f (nI_ge (by omega) (by omega)) (cp_gC hM (by omega) (nm_e (cp_gF hM (by omega) (nm_r (e' := H + ch_sL ca (m + 1) + ch_sL fu (m + 1)) ?_ (nm_r (nI_1 m) (ih (m + 1) (by omega)))))))
      show H + ch_sL ca m + ch_sL fu m + ca m + fu m = H + (ch_sL ca m + ca m) + (ch_sL fu m + fu m)
      grind
  have L3 : ∀ n i, i + n = N → wL_holds_3 post (nI M) (nI N) E (nI M) (nI N) (nI R) H fd st ca fu mc hb ba ps cu se wf pa (n + 1) (nI i) := by
    intro n
    induction n with
    | zero =>
      intro i hi
      obtain rfl : i = N := by omega
      refine br_t (Int32.le_refl _) ⟨M + 1, ?_⟩
      have z := L65 M 0 (by omega)
      rw [show H + ch_sL ca 0 + ch_sL fu 0 = H from (Int64.add_zero _).trans (Int64.add_zero _)] at z
      exact z
    | succ n ih =>
      intro i hi
      have L15 : ∀ l m, m + l = M → wL_holds_15 post (wL_holds_3 post (nI M) (nI N) E (nI M) (nI N) (nI R) H fd st ca fu mc hb ba ps cu se wf pa (n + 1)) (nI M) (nI N) E (nI i) (nI M) (nI N) (nI R) H fd st ca fu mc hb ba ps cu se wf pa (l + 1) (ch_L (ch_sI (fun m => (ps (m * 4 + i)).toInt) m)) (nI m) := by
        intro l
        induction l with
        | zero =>
          intro m hm
          obtain rfl : m = M := by omega
          refine br_t (Int32.le_refl _) (br_t ?_ (nm_r (nI_1 i) (ih (i + 1) (by omega))))
          rw [hz i (by omega)]; decide
        | succ l ihl =>
          intro m hm
          refine br_f (nI_ge (by omega) (by omega)) (cp_gP hM hN (by omega) (by omega) (nm_r ?_ (nm_r (nI_1 m) (ihl (m + 1) (by omega)))))
          rw [ch_Li, ch_Ladd]; rfl
      exact br_f (nI_ge (by omega) (by omega)) ⟨M + 1, L15 M 0 (by omega)⟩
  exact ⟨N + 1, L3 N 0 (by omega)⟩
theorem cp_cell {post : Int32 → Prop} {L a : Nat} {xs : Nat → Int32} (hL : L ≤ 260) (ha : a < 2147483648) (hp : ∀ r, post r) : wpL_cell post L xs () (nI a) := by
  by_cases c : L ≤ a
  · exact br_t (nI_le c ha) (hp _)
  · exact br_f (nI_ge (by omega) (by omega)) ⟨vp_in_nI (by omega) (by omega), hp _⟩
theorem cp_red {post : Int32 → Prop} {p0 p1 : Int32} (h : ¬ p1 = 0) (hp : ∀ r, post r) : wpL_red post () p0 p1 :=
  ⟨h, fun x _ => br_c (fun _ => hp _) (fun _ => hp _)⟩
theorem cp_523 {post : Int32 → Prop} {L : Nat} {xs : Nat → Int32} {J : Int64 → Int64 → Int32 → Int32 → Int32 → Int32 → Int64 → Int32 → (Nat → Int32) → (Nat → Int64) → (Nat → Int64) → (Nat → Int64) → (Nat → Int32) → (Nat → Int32) → (Nat → Int32) → (Nat → Int32) → (Nat → Int32) → (Nat → Int64) → (Nat → Int64) → Prop} {x8 x10 x12 : Int64} {x14 : Int32} {x kc ks : Nat}
    (I : cp_IX k M N R (x8 + x10 - x12) H fd st ca fu hb ba ps cu se) (hJ : J x10 x12 (nI (x + 4)) (nI M) (nI N) (nI R) H fd st ca fu mc hb ba ps cu se wf pa) : wL_law_523 post L xs J (nI M) (nI N) x8 x10 x12 x14 (nI x) kc ks (nI M) (nI N) (nI R) H fd st ca fu mc hb ba ps cu se wf pa :=
  cp_holds (cp_mk I) (br_f ch_n10 (nm_r (nI_add x 4) hJ))
theorem cp_158 {L : Nat} {xs : Nat → Int32} {x8 : Int64} {kc ks : Nat} (hL : L ≤ 260) (hc : ch_Cn M N R) : ∀ (n x : Nat) (x10 x12 : Int64) (H : Int64) (fd : Int32) (st : Nat → Int32) (ca fu mc : Nat → Int64) (hb ba ps cu se : Nat → Int32) (wf pa : Nat → Int64),
    x ≤ 300 → L ≤ x + 4 * n → cp_IX (3 * x) M N R (x8 + x10 - x12) H fd st ca fu hb ba ps cu se → wL_law_158 (fun r => r = 1) L xs (nI M) (nI N) x8 (nI M) kc ks (n + 1) x10 x12 (nI x) (nI M) (nI N) (nI R) H fd st ca fu mc hb ba ps cu se wf pa := by
  intro n
  induction n with
  | zero =>
    intro x x10 x12 H fd st ca fu mc hb ba ps cu se wf pa hx hLx I
    exact br_t (nI_le (by omega) (by omega)) rfl
  | succ n ih =>
    intro x x10 x12 H fd st ca fu mc hb ba ps cu se wf pa hx hLx I
    by_cases c : L ≤ x
    · exact br_t (nI_le c (by omega)) rfl
    have hM1 : ¬ nI M + 1 = 0 := by rw [nI_1]; exact nI_ne0 (by omega) (by have := hc.1.2; omega)
    have hN1 : ¬ nI N + 1 = 0 := by rw [nI_1]; exact nI_ne0 (by omega) (by have := hc.2.1.2; omega)
    have U : cp_RX (3 * x) M N R (x8 + x10 - x12) ((nI M), (nI N), (nI R), H, fd, st, ca, fu, mc, hb, ba, ps, cu, se, wf, pa) := cp_mk I
    have go : ∀ {x10 x12 : Int64} {k' : Nat} {H : Int64} {fd : Int32} {st : Nat → Int32} {ca fu mc : Nat → Int64} {hb ba ps cu se : Nat → Int32} {wf pa : Nat → Int64}, k' ≤ 3 * (x + 4) → cp_IX k' M N R (x8 + x10 - x12) H fd st ca fu hb ba ps cu se → wL_law_523 (fun r => r = 1) L xs (wL_law_158 (fun r => r = 1) L xs (nI M) (nI N) x8 (nI M) kc ks (n + 1)) (nI M) (nI N) x8 x10 x12 (nI M) (nI x) kc ks (nI M) (nI N) (nI R) H fd st ca fu mc hb ba ps cu se wf pa := by
      intro x10 x12 k' H fd st ca fu mc hb ba ps cu se wf pa hk' I'
      refine cp_523 I' (ih (x + 4) _ _ _ _ _ _ _ _ _ _ _ _ _ _ _ (by omega) (by omega) ?_)
      obtain ⟨a1, a2, a3, a4, a5, a6, a7, a8, a9, a10⟩ := I'
      exact ⟨a1, a2, a3, ch_FdU a4 hk', ch_CaU a5 hk', a6, a7, a8, a9, a10⟩
    refine br_f (nI_ge (by omega) (by omega)) (cp_cell hL (by omega) (fun r64 => cp_red (by decide) (fun r65 => ?_)))
    rw [nI_1 x, show nI x + 2 = nI (x + 2) from nI_add x 2, show nI x + 3 = nI (x + 3) from nI_add x 3]
    refine cp_cell hL (by omega) (fun r66 => cp_cell hL (by omega) (fun r67 => cp_cell hL (by omega) (fun r68 => cp_red hM1 (fun r69 => ?_))))
    by_cases o0 : r65 = 0
    · refine br_t o0 (cp_red (by decide) (fun r486 => nm_e (cp_red (by decide) (fun r488 => ?_))))
      refine cp_deposit U (by omega) (fun u' h => ?_) (fun u' h => ?_)
      · obtain ⟨H, fd, st, ca, fu, mc, hb, ba, ps, cu, se, wf, pa, rfl, I'⟩ := h
        exact br_t rfl (go (by omega) I')
      · obtain ⟨H, fd, st, ca, fu, mc, hb, ba, ps, cu, se, wf, pa, rfl, I'⟩ := h
        rw [show x8 + x10 - x12 + (r486 - 50).toInt64 = x8 + (x10 + (r486 - 50).toInt64) - x12 by grind] at I'
        exact br_f ch_n10 (nm_e (go (by omega) I'))
    refine br_f o0 ?_
    by_cases o1 : r65 = 1
    · refine br_t o1 (cp_red (by decide) (fun r442 => nm_e (cp_red (by decide) (fun r444 => ?_))))
      refine cp_withdraw U (by omega) (fun u' h => ?_) (fun u' h => ?_)
      · obtain ⟨H, fd, st, ca, fu, mc, hb, ba, ps, cu, se, wf, pa, rfl, I'⟩ := h
        exact br_t rfl (go (by omega) I')
      · obtain ⟨H, fd, st, ca, fu, mc, hb, ba, ps, cu, se, wf, pa, rfl, I'⟩ := h
        rw [show x8 + x10 - x12 - (r442 - 50).toInt64 = x8 + x10 - (x12 + (r442 - 50).toInt64) by grind] at I'
        exact br_f ch_n10 (nm_e (go (by omega) I'))
    refine br_f o1 ?_
    by_cases o2 : r65 = 2
    · refine br_t o2 (cp_red hN1 (fun r401 => cp_red (by decide) (fun r402 => cp_quote U (fun r u' h => ?_))))
      obtain ⟨H, fd, st, ca, fu, mc, hb, ba, ps, cu, se, wf, pa, rfl, I'⟩ := h
      exact go (by omega) I'
    refine br_f o2 ?_
    by_cases o3 : r65 = 3
    · refine br_t o3 (cp_red hM1 (fun r358 => cp_red hN1 (fun r359 => ⟨by decide, cp_red (by decide) (fun r361 => cp_trade U (by omega) (fun r u' h => ?_))⟩)))
      obtain ⟨H, fd, st, ca, fu, mc, hb, ba, ps, cu, se, wf, pa, rfl, I'⟩ := h
      exact go (by omega) I'
    refine br_f o3 ?_
    by_cases o4 : r65 = 4
    · refine br_t o4 (cp_settle U (by omega) (fun r u' h => ?_))
      obtain ⟨H, fd, st, ca, fu, mc, hb, ba, ps, cu, se, wf, pa, rfl, I'⟩ := h
      exact go (by omega) I'
    refine br_f o4 ?_
    by_cases o5 : r65 = 5
    · refine br_t o5 (cp_callMargins U (fun r u' h => ?_))
      obtain ⟨H, fd, st, ca, fu, mc, hb, ba, ps, cu, se, wf, pa, rfl, I'⟩ := h
      exact go (by omega) I'
    refine br_f o5 ?_
    by_cases o6 : r65 = 6
    · refine br_t o6 (cp_declare U (fun r u' h => ?_))
      obtain ⟨H, fd, st, ca, fu, mc, hb, ba, ps, cu, se, wf, pa, rfl, I'⟩ := h
      exact go (by omega) I'
    refine br_f o6 ?_
    by_cases o7 : r65 = 7
    · refine br_t o7 (cp_red (by decide) (fun r201 => cp_bid U (fun r u' h => ?_)))
      obtain ⟨H, fd, st, ca, fu, mc, hb, ba, ps, cu, se, wf, pa, rfl, I'⟩ := h
      exact go (by omega) I'
    refine br_f o7 ?_
    by_cases o8 : r65 = 8
    · refine br_t o8 (cp_close U (by omega) (fun r u' h => ?_))
      obtain ⟨H, fd, st, ca, fu, mc, hb, ba, ps, cu, se, wf, pa, rfl, I'⟩ := h
      exact go (by omega) I'
    refine br_f o8 (cp_callMargins U (fun r u' h => ?_))
    have h' := h
    obtain ⟨H, fd, st, ca, fu, mc, hb, ba, ps, cu, se, wf, pa, rfl, I'⟩ := h
    refine cp_holds h' (br_f ch_n10 (cp_declare h' (fun r u'' h'' => ?_)))
    obtain ⟨H, fd, st, ca, fu, mc, hb, ba, ps, cu, se, wf, pa, rfl, I''⟩ := h''
    exact go (by omega) I''
theorem cp_74 {L C : Nat} {xs : Nat → Int32} {x2 x3 : Int32} {kc ks : Nat} (hL : L ≤ 260) (hc : ch_Cn M N R) (hst : st = fun _ => 0)
    (hN : ∀ (P : Int32 → Prop) (Q : Prop), P (nI N) → (P (nI 1) → Q) → ((nI 1 ≤ x2 → ((x2 ≤ nI 4 → P x2) ∧ (¬ x2 ≤ nI 4 → P (nI 4)))) ∧ (¬ nI 1 ≤ x2 → Q)))
    (hC : ∀ (P : Int32 → Prop) (Q : Prop), P (nI C) → (P (nI 0) → Q) → ((nI 0 ≤ x3 → ((x3 ≤ nI 1000000 → P x3) ∧ (¬ x3 ≤ nI 1000000 → P (nI 1000000)))) ∧ (¬ nI 0 ≤ x3 → Q)))
    (I : cp_IX 12 M N R (nI C).toInt64 (nI C).toInt64 fd st ca fu hb ba ps cu se) :
    ∀ n j c, j + n = 16 → c = (if j < M then j else M) → wL_law_74 (fun r => r = 1) L xs x2 x3 kc ks (nI M) (nI N) (nI R) ((nI C).toInt64) fd st ca fu mc hb ba ps cu se wf pa (n + 1) (nI c) (nI j) := by
  have hM := hc.1
  intro n
  induction n with
  | zero =>
    intro j c hj ec
    obtain rfl : j = 16 := by omega
    obtain rfl : c = M := by rw [ec, if_neg (by omega)]
    have xN : ∀ post : Int32 → Prop, post (nI N) → wpL_clamp post () x2 1 4 := fun post p => hN post (post (nI 1)) p id
    have xC : ∀ post : Int32 → Prop, post (nI C) → wpL_clamp post () x3 0 1000000 := fun post p => hC post (post (nI 0)) p id
    refine br_t (Int32.le_refl _) (xN _ (xC _ (cp_holds (cp_mk I) (br_f ch_n10 (br_t (nI_le (a := 1) (by omega) (by omega)) ⟨65, ?_⟩)))))
    refine cp_158 hL hc 64 4 0 0 _ _ _ _ _ _ _ _ _ _ _ _ _ (by omega) (by omega) ?_
    rw [show (nI C).toInt64 + 0 - 0 = (nI C).toInt64 by grind]
    exact I
  | succ n ih =>
    intro j c hj ec
    have z := ih (j + 1)
    refine br_f (nI_ge (b := 16) (by omega) (by omega)) ?_
    by_cases q : j < M
    · refine br_f (nI_pos (by omega)) (br_f (nI_ge q (by omega)) (br_f ch_n10 ⟨vp_in_nI (by omega) (by omega), br_f ?_ (nm_r (nI_1 c) (nm_r (nI_1 j) (ih (j + 1) (c + 1) (by omega) ?_)))⟩))
      · rw [hst]; exact (by decide : ¬ (0 : Int32) = -1)
      · rw [ec, if_pos q]
        by_cases y : j + 1 < M
        · rw [if_pos y]
        · rw [if_neg y]; omega
    · refine br_f (nI_pos (by omega)) (br_t (nI_le (by omega) (by omega)) (br_t rfl (br_t rfl (nm_r (nI_1 j) (ih (j + 1) c (by omega) ?_)))))
      rw [ec, if_neg q, if_neg (by omega)]
theorem i_vc (xs : Nat → Int32) (L : Nat) (hL : L ≤ 260) : wpL_law (fun r => r = 1) L xs := by
  refine cp_cell (a := 0) hL (by omega) (fun r1 => cp_red (by decide) (fun r2 => nm_e ?_))
  refine cp_cell (a := 1) hL (by omega) (fun r4 => cp_red (by decide) (fun r5 => nm_e ?_))
  refine cp_cell (a := 2) hL (by omega) (fun r7 => cp_red (by decide) (fun r8 => nm_e ?_))
  refine cp_cell (a := 3) hL (by omega) (fun r10 => cp_red (by decide) (fun r11 => nm_e ?_))
  generalize r2 - 1 = k0
  generalize r5 - 1 = k1
  generalize r8 - 100000 = k2
  generalize r11 - 2 = k3
  obtain ⟨M, m1, m2, hM⟩ := ch_clamp k0 2 8 (by omega) (by omega)
  obtain ⟨N, n1, n2, hN⟩ := ch_clamp k1 1 4 (by omega) (by omega)
  obtain ⟨C, c1, c2, hC⟩ := ch_clamp k2 0 1000000 (by omega) (by omega)
  obtain ⟨R, r1, r2, hR⟩ := ch_clamp k3 1 50 (by omega) (by omega)
  have xM : ∀ post : Int32 → Prop, post (nI M) → wpX_clamp post () k0 2 8 := fun post p => hM post (post (nI 2)) p id
  have xN : ∀ post : Int32 → Prop, post (nI N) → wpX_clamp post () k1 1 4 := fun post p => hN post (post (nI 1)) p id
  have xC : ∀ post : Int32 → Prop, post (nI C) → wpX_clamp post () k2 0 1000000 := fun post p => hC post (post (nI 0)) p id
  have xR : ∀ post : Int32 → Prop, post (nI R) → wpX_clamp post () k3 1 50 := fun post p => hR post (post (nI 1)) p id
  have hc : ch_Cn M N R := ⟨⟨m1, m2⟩, ⟨n1, n2⟩, ⟨r1, r2⟩⟩
  refine ⟨11, 103, by omega, by omega, ?_⟩
  unfold wpX_init
  refine ⟨by omega, by omega, by omega, by omega, by omega, by omega, by omega, by omega, by omega, by omega, by omega, by omega, by omega, by omega, by omega, by omega, by omega, by omega, by omega, by omega, by omega, by omega, ?_⟩
  refine xM _ (xN _ (xR _ (xC _ (ch_xIni ?_))))
  refine ⟨17, ?_⟩
  have p100 : ch_pr (100 : Int32) := by
    have : (100 : Int32).toInt = 100 := by decide
    unfold ch_pr; rw [this]; omega
  have z0 : (0 : Int64).toInt = 0 := by decide
  have s0 : ∀ n, ch_sL (fun _ => (0 : Int64)) n = 0 := by
    intro n
    induction n with
    | zero => rfl
    | succ n ih => show ch_sL (fun _ => (0 : Int64)) n + 0 = 0; rw [ih]; rfl
  have i0 : ∀ n, ch_sI (fun _ => (0 : Int)) n = 0 := by
    intro n
    induction n with
    | zero => rfl
    | succ n ih => show ch_sI (fun _ => (0 : Int)) n + 0 = 0; rw [ih]; rfl
  refine cp_74 hL hc rfl hN hC ⟨hc, Or.inl ⟨rfl, fun j _ => (by decide : ¬ (0 : Int32) = 1)⟩, ⟨fun j _ => rfl, fun j hj => absurd rfl hj⟩, fun j => ?_, fun j => ?_, fun s => ?_, fun i hi => ?_, fun i hi => ?_, ?_, Or.inl rfl⟩ 16 0 0 (by omega) (by rw [if_pos (by omega)])
  · show 0 ≤ (0 : Int64).toInt ∧ (0 : Int64).toInt ≤ _
    rw [z0]; omega
  · show ch_aL _ (0 : Int64)
    unfold ch_aL; rw [z0]; omega
  · have b := ch_pbB (st := fun _ => (0 : Int32)) (M := M) m2
    exact ch_ab0 (by omega)
  · rw [ch_iniE 4 i hi]
    exact ⟨p100, p100⟩
  · exact i0 M
  · rw [s0]
    exact (Int64.add_zero _).trans (Int64.add_zero _)
end CPC
end
