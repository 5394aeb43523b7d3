section CHB
/-! C: the sum of the survivors' funds, the split -/
def ch_fs (st : Nat → Int32) (f : Nat → Nat) : Nat → Nat
  | 0 => 0
  | n + 1 => ch_fs st f n + (if st n = 0 then f n else 0)
theorem ch_fsMono (st : Nat → Int32) (f : Nat → Nat) : ∀ {n m : Nat}, n ≤ m → ch_fs st f n ≤ ch_fs st f m := by
  intro n m h
  induction m with
  | zero => have : n = 0 := by omega
            rw [this]; exact Nat.le_refl _
  | succ m ih =>
    by_cases q : n = m + 1
    · rw [q]; exact Nat.le_refl _
    · exact Nat.le_trans (ih (by omega)) (Nat.le_add_right _ _)
theorem ch_fsGe {st : Nat → Int32} {f : Nat → Nat} {j n : Nat} (hj : j < n) (h : st j = 0) : f j ≤ ch_fs st f n := by
  refine Nat.le_trans ?_ (ch_fsMono st f (show j + 1 ≤ n by omega))
  show f j ≤ ch_fs st f j + (if st j = 0 then f j else 0)
  rw [if_pos h]; omega
theorem ch_fsB {st : Nat → Int32} {f : Nat → Nat} {B : Nat} (h : ∀ j, f j ≤ B) : ∀ n, ch_fs st f n ≤ n * B := by
  intro n
  induction n with
  | zero => show 0 ≤ _; omega
  | succ n ih =>
    show ch_fs st f n + (if st n = 0 then f n else 0) ≤ (n + 1) * B
    have := h n
    rw [Nat.succ_mul]
    split <;> omega
/-- the first parts -/
def ch_g0 (st : Nat → Int32) (f : Nat → Nat) (A F : Nat) (j : Nat) : Nat := if st j = 0 then A * f j / F else 0
/-- their sum -/
def ch_gs (st : Nat → Int32) (f : Nat → Nat) (A F : Nat) : Nat → Nat
  | 0 => 0
  | n + 1 => ch_gs st f A F n + ch_g0 st f A F n
/-- how many below n may get one more -/
def ch_el (st : Nat → Int32) (f : Nat → Nat) : Nat → Nat
  | 0 => 0
  | n + 1 => ch_el st f n + (if st n = 0 ∧ 0 < f n then 1 else 0)
/-- the parts -/
def ch_g (st : Nat → Int32) (f : Nat → Nat) (A F M : Nat) (j : Nat) : Nat :=
  ch_g0 st f A F j + (if (st j = 0 ∧ 0 < f j) ∧ ch_el st f j + ch_gs st f A F M < A then 1 else 0)
theorem ch_elMono (st : Nat → Int32) (f : Nat → Nat) : ∀ {n m : Nat}, n ≤ m → ch_el st f n ≤ ch_el st f m := by
  intro n m h
  induction m with
  | zero => have : n = 0 := by omega
            rw [this]; exact Nat.le_refl _
  | succ m ih =>
    by_cases q : n = m + 1
    · rw [q]; exact Nat.le_refl _
    · exact Nat.le_trans (ih (by omega)) (Nat.le_add_right _ _)
theorem ch_gsMono (st : Nat → Int32) (f : Nat → Nat) (A F : Nat) : ∀ {n m : Nat}, n ≤ m → ch_gs st f A F n ≤ ch_gs st f A F m := by
  intro n m h
  induction m with
  | zero => have : n = 0 := by omega
            rw [this]; exact Nat.le_refl _
  | succ m ih =>
    by_cases q : n = m + 1
    · rw [q]; exact Nat.le_refl _
    · exact Nat.le_trans (ih (by omega)) (Nat.le_add_right _ _)
theorem ch_gsGe {st : Nat → Int32} {f : Nat → Nat} {A F j n : Nat} (hj : j < n) : ch_g0 st f A F j ≤ ch_gs st f A F n := by
  refine Nat.le_trans ?_ (ch_gsMono st f A F (show j + 1 ≤ n by omega))
  show _ ≤ ch_gs st f A F j + ch_g0 st f A F j
  omega
theorem ch_elB (st : Nat → Int32) (f : Nat → Nat) : ∀ n, ch_el st f n ≤ n := by
  intro n
  induction n with
  | zero => exact Nat.le_refl _
  | succ n ih =>
    show ch_el st f n + (if st n = 0 ∧ 0 < f n then 1 else 0) ≤ n + 1
    split <;> omega
theorem ch_g0A {st : Nat → Int32} {f : Nat → Nat} {A F j : Nat} (h : st j = 0 → f j ≤ F) : ch_g0 st f A F j ≤ A := by
  unfold ch_g0
  split
  · next e => exact Nat.le_trans (Nat.div_le_div_right (Nat.mul_le_mul_left A (h e))) (by
      rcases Nat.eq_zero_or_pos F with q | q
      · rw [q]; simp
      · rw [Nat.mul_div_cancel _ q]; exact Nat.le_refl _)
  · omega
theorem ch_gsB {st : Nat → Int32} {f : Nat → Nat} {A F : Nat} (h : ∀ j, ch_g0 st f A F j ≤ A) : ∀ n, ch_gs st f A F n ≤ n * A := by
  intro n
  induction n with
  | zero => show 0 ≤ _; omega
  | succ n ih =>
    show ch_gs st f A F n + ch_g0 st f A F n ≤ (n + 1) * A
    have := h n
    rw [Nat.succ_mul]; omega
theorem ch_gN {st : Nat → Int32} {f : Nat → Nat} {A F M j : Nat} (h : ¬ st j = 0) : ch_g st f A F M j = 0 := by
  unfold ch_g ch_g0
  rw [if_neg h, if_neg (fun q => h q.1.1)]
theorem ch_gA {st : Nat → Int32} {f : Nat → Nat} {A F M j : Nat} (hj : j < M) (h : st j = 0 → f j ≤ F) : ch_g st f A F M j ≤ A := by
  have a := ch_g0A (A := A) h
  have b := ch_gsGe (st := st) (f := f) (A := A) (F := F) hj
  unfold ch_g
  split <;> omega
theorem ch_gF {st : Nat → Int32} {f : Nat → Nat} {A F M j : Nat} (hA : A < F) : ch_g st f A F M j ≤ f j := by
  unfold ch_g ch_g0
  by_cases h : st j = 0
  · rw [if_pos h]
    by_cases q : 0 < f j
    · have : A * f j / F < f j := by
        rw [Nat.div_lt_iff_lt_mul (by omega), Nat.mul_comm (f j) F]
        exact Nat.mul_lt_mul_of_pos_right hA q
      split <;> omega
    · have e : f j = 0 := by omega
      rw [if_neg (fun z => q z.1.2), e]; simp
  · rw [if_neg h, if_neg (fun q => h q.1.1)]; omega
/-- the bits of A, from above: one turn -/
theorem ch_shStep {F f q r a β : Nat} (hf : f ≤ F) (h : q * F + r = a * f) (hr : r < F) (hβ : β = 0 ∨ β = 1) :
    ∀ q1 r1 q2 r2 : Nat, (F ≤ 2 * r → q1 = 2 * q + 1 ∧ r1 = 2 * r - F) → (¬ F ≤ 2 * r → q1 = 2 * q ∧ r1 = 2 * r) →
    (β = 0 → q2 = q1 ∧ r2 = r1) → (β = 1 → F ≤ r1 + f → q2 = q1 + 1 ∧ r2 = r1 + f - F) → (β = 1 → ¬ F ≤ r1 + f → q2 = q1 ∧ r2 = r1 + f) →
    q2 * F + r2 = (2 * a + β) * f ∧ r2 < F := by
  intro q1 r1 q2 r2 h1 h2 h3 h4 h5
  have e1 : q1 * F + r1 = 2 * a * f ∧ r1 < F := by
    have e0 : 2 * a * f = 2 * (q * F) + 2 * r := by rw [Nat.mul_assoc, ← h]; omega
    by_cases c : F ≤ 2 * r
    · obtain ⟨x, y⟩ := h1 c
      rw [e0, x, y, Nat.add_mul, Nat.mul_assoc, Nat.one_mul]; omega
    · obtain ⟨x, y⟩ := h2 c
      rw [e0, x, y, Nat.mul_assoc]; omega
  rcases hβ with b | b
  · obtain ⟨x, y⟩ := h3 b
    rw [x, y, b]; exact e1
  · have e2 : (2 * a + β) * f = 2 * a * f + f := by rw [b, Nat.add_mul, Nat.one_mul]
    rw [e2, ← e1.1]
    by_cases c : F ≤ r1 + f
    · obtain ⟨x, y⟩ := h4 b c
      rw [x, y, Nat.add_mul, Nat.one_mul]; omega
    · obtain ⟨x, y⟩ := h5 b c
      rw [x, y]; omega
theorem ch_shEnd {F f q r A : Nat} (h : q * F + r = A * f) (hr : r < F) : q = A * f / F := by
  rw [← h, Nat.add_comm, Nat.add_mul_div_right _ _ (by omega), Nat.div_eq_of_lt hr, Nat.zero_add]
theorem ch_shQ {F f q r a : Nat} (hf : f ≤ F) (hF : 0 < F) (h : q * F + r = a * f) : q ≤ a := by
  have : q * F ≤ a * F := Nat.le_trans (by omega) (Nat.mul_le_mul_left a hf)
  exact Nat.le_of_mul_le_mul_right this hF
/-- statuses: how many below n are in default -/
def ch_cd (st : Nat → Int32) : Nat → Nat
  | 0 => 0
  | n + 1 => ch_cd st n + (if st n = 2 then 1 else 0)
theorem ch_cdB (st : Nat → Int32) : ∀ n, ch_cd st n ≤ n := by
  intro n
  induction n with
  | zero => exact Nat.le_refl _
  | succ n ih =>
    show ch_cd st n + (if st n = 2 then 1 else 0) ≤ n + 1
    split <;> omega
theorem ch_cdU {st : Nat → Int32} {d : Nat} {x : Int32} : ∀ n, n ≤ d → ch_cd (upd st d x) n = ch_cd st n := by
  intro n
  induction n with
  | zero => intro _; rfl
  | succ n ih =>
    intro h
    show ch_cd (upd st d x) n + (if upd st d x n = 2 then 1 else 0) = ch_cd st n + (if st n = 2 then 1 else 0)
    rw [ih (by omega), ch_un (by omega)]
theorem ch_cdN {st : Nat → Int32} {d : Nat} {x : Int32} (h : ¬ st d = 2) (hx : ¬ x = 2) : ∀ n, ch_cd (upd st d x) n = ch_cd st n := by
  intro n
  induction n with
  | zero => rfl
  | succ n ih =>
    show ch_cd (upd st d x) n + (if upd st d x n = 2 then 1 else 0) = ch_cd st n + (if st n = 2 then 1 else 0)
    rw [ih]
    by_cases q : n = d
    · rw [q, ch_us, if_neg hx, if_neg h]
    · rw [ch_un q]
theorem ch_cdS {st : Nat → Int32} {d : Nat} (h : ¬ st d = 2) : ∀ n, d < n → ch_cd (upd st d 2) n = ch_cd st n + 1 := by
  intro n
  induction n with
  | zero => intro h; omega
  | succ n ih =>
    intro hn
    show ch_cd (upd st d 2) n + (if upd st d 2 n = 2 then 1 else 0) = ch_cd st n + (if st n = 2 then 1 else 0) + 1
    by_cases q : n = d
    · rw [q, ch_us, if_neg h, if_pos rfl, ch_cdU d (Nat.le_refl d)]
    · rw [ih (by omega), ch_un q]; omega
/-- how many below n are active; .. but one -/
def ch_ca (st : Nat → Int32) : Nat → Nat
  | 0 => 0
  | n + 1 => ch_ca st n + (if st n = 0 then 1 else 0)
def ch_co (st : Nat → Int32) (m : Nat) : Nat → Nat
  | 0 => 0
  | n + 1 => ch_co st m n + (if n ≠ m ∧ st n = 0 then 1 else 0)
theorem ch_caB (st : Nat → Int32) : ∀ n, ch_ca st n ≤ n := by
  intro n
  induction n with
  | zero => exact Nat.le_refl _
  | succ n ih =>
    show ch_ca st n + (if st n = 0 then 1 else 0) ≤ n + 1
    split <;> omega
theorem ch_coB (st : Nat → Int32) (m : Nat) : ∀ n, ch_co st m n ≤ n := by
  intro n
  induction n with
  | zero => exact Nat.le_refl _
  | succ n ih =>
    show ch_co st m n + (if n ≠ m ∧ st n = 0 then 1 else 0) ≤ n + 1
    split <;> omega
theorem ch_coE {st : Nat → Int32} {m : Nat} (h : st m = 0) : ∀ n, ch_ca st n = ch_co st m n + (if m < n then 1 else 0) := by
  intro n
  induction n with
  | zero => rfl
  | succ n ih =>
    show ch_ca st n + (if st n = 0 then 1 else 0) = ch_co st m n + (if n ≠ m ∧ st n = 0 then 1 else 0) + (if m < n + 1 then 1 else 0)
    rw [ih]
    by_cases q : n = m
    · subst q
      rw [if_neg (Nat.lt_irrefl n), if_pos h, if_neg (fun z => z.1 rfl), if_pos (Nat.lt_succ_self n)]
    · have e : (if m < n + 1 then 1 else 0) = (if m < n then 1 else 0) := by
        by_cases z : m < n
        · rw [if_pos z, if_pos (by omega)]
        · rw [if_neg z, if_neg (by omega)]
      rw [e]
      by_cases z : st n = 0
      · have a : (n ≠ m ∧ st n = 0) := ⟨q, z⟩
        rw [if_pos z, if_pos a]; omega
      · have a : ¬ (n ≠ m ∧ st n = 0) := fun y => z y.2
        rw [if_neg z, if_neg a]; omega
end CHB
