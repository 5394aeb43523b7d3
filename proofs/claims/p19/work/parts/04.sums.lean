section CHS
/-! sums: of integers, of longs, of naturals -/
def ch_sI (f : Nat → Int) : Nat → Int
  | 0 => 0
  | n + 1 => ch_sI f n + f n
def ch_sL (f : Nat → Int64) : Nat → Int64
  | 0 => 0
  | n + 1 => ch_sL f n + f n
def ch_sN (f : Nat → Nat) : Nat → Nat
  | 0 => 0
  | n + 1 => ch_sN f n + f n
theorem ch_sIc {f g : Nat → Int} : ∀ n, (∀ j, j < n → f j = g j) → ch_sI f n = ch_sI g n := by
  intro n
  induction n with
  | zero => intro _; rfl
  | succ n ih =>
    intro h
    show ch_sI f n + f n = ch_sI g n + g n
    rw [ih (fun j hj => h j (by omega)), h n (by omega)]
theorem ch_sLc {f g : Nat → Int64} : ∀ n, (∀ j, j < n → f j = g j) → ch_sL f n = ch_sL g n := by
  intro n
  induction n with
  | zero => intro _; rfl
  | succ n ih =>
    intro h
    show ch_sL f n + f n = ch_sL g n + g n
    rw [ih (fun j hj => h j (by omega)), h n (by omega)]
theorem ch_sIa (f g : Nat → Int) : ∀ n, ch_sI (fun j => f j + g j) n = ch_sI f n + ch_sI g n := by
  intro n
  induction n with
  | zero => rfl
  | succ n ih =>
    show ch_sI (fun j => f j + g j) n + (f n + g n) = ch_sI f n + f n + (ch_sI g n + g n)
    rw [ih]; omega
theorem ch_sLa (f g : Nat → Int64) : ∀ n, ch_sL (fun j => f j + g j) n = ch_sL f n + ch_sL g n := by
  intro n
  induction n with
  | zero => rfl
  | succ n ih =>
    show ch_sL (fun j => f j + g j) n + (f n + g n) = ch_sL f n + f n + (ch_sL g n + g n)
    rw [ih]; grind
theorem ch_sLs (f g : Nat → Int64) : ∀ n, ch_sL (fun j => f j - g j) n = ch_sL f n - ch_sL g n := by
  intro n
  induction n with
  | zero => exact (by decide : (0 : Int64) = 0 - 0)
  | succ n ih =>
    show ch_sL (fun j => f j - g j) n + (f n - g n) = ch_sL f n + f n - (ch_sL g n + g n)
    rw [ih]; grind
theorem ch_sIm (f : Nat → Int) (c : Int) : ∀ n, ch_sI (fun j => f j * c) n = ch_sI f n * c := by
  intro n
  induction n with
  | zero => show (0 : Int) = 0 * c; rw [Int.zero_mul]
  | succ n ih =>
    show ch_sI (fun j => f j * c) n + f n * c = (ch_sI f n + f n) * c
    rw [ih, Int.add_mul]
theorem ch_sI1 (a : Nat) (x : Int) : ∀ n, ch_sI (fun j => if j = a then x else 0) n = if a < n then x else 0 := by
  intro n
  induction n with
  | zero => rw [if_neg (Nat.not_lt_zero _)]; rfl
  | succ n ih =>
    show ch_sI (fun j => if j = a then x else 0) n + (if n = a then x else 0) = _
    rw [ih]
    by_cases q : n = a
    · rw [if_pos q, if_neg (by omega), if_pos (by omega)]; omega
    · rw [if_neg q]
      by_cases z : a < n
      · rw [if_pos z, if_pos (by omega)]; omega
      · rw [if_neg z, if_neg (by omega)]; rfl
theorem ch_sLu {f : Nat → Int64} {a : Nat} {x : Int64} : ∀ n, ch_sL (vp_updL f a x) n = if a < n then ch_sL f n - f a + x else ch_sL f n := by
  intro n
  induction n with
  | zero => rw [if_neg (Nat.not_lt_zero _)]; rfl
  | succ n ih =>
    show ch_sL (vp_updL f a x) n + vp_updL f a x n = if a < n + 1 then ch_sL f n + f n - f a + x else ch_sL f n + f n
    rw [ih]
    by_cases q : n = a
    · subst q
      rw [ch_uLs, if_neg (Nat.lt_irrefl n), if_pos (Nat.lt_succ_self n)]; grind
    · rw [ch_uLn q]
      by_cases z : a < n
      · rw [if_pos z, if_pos (by omega)]; grind
      · rw [if_neg z, if_neg (by omega)]
theorem ch_sIL (f : Nat → Int) : ∀ n, ch_sL (fun j => ch_L (f j)) n = ch_L (ch_sI f n) := by
  intro n
  induction n with
  | zero => exact (by decide : (0 : Int64) = ch_L 0)
  | succ n ih =>
    show ch_sL (fun j => ch_L (f j)) n + ch_L (f n) = ch_L (ch_sI f n + f n)
    rw [ih, ch_Ladd]
theorem ch_sNL (f : Nat → Nat) : ∀ n, ch_sL (fun j => lN (f j)) n = lN (ch_sN f n) := by
  intro n
  induction n with
  | zero => rfl
  | succ n ih =>
    show ch_sL (fun j => lN (f j)) n + lN (f n) = lN (ch_sN f n + f n)
    rw [ih, lN_add]
theorem ch_sNI (f : Nat → Nat) : ∀ n, ch_sI (fun j => (f j : Int)) n = (ch_sN f n : Int) := by
  intro n
  induction n with
  | zero => rfl
  | succ n ih =>
    show ch_sI (fun j => (f j : Int)) n + (f n : Int) = ((ch_sN f n + f n : Nat) : Int)
    rw [ih]; omega
/-! the parts of a split sum to what is split -/
def ch_rs (st : Nat → Int32) (f : Nat → Nat) (A F : Nat) : Nat → Nat
  | 0 => 0
  | n + 1 => ch_rs st f A F n + (if st n = 0 then A * f n % F else 0)
theorem ch_rsE (st : Nat → Int32) (f : Nat → Nat) (A F : Nat) : ∀ n, A * ch_fs st f n = F * ch_gs st f A F n + ch_rs st f A F n := by
  intro n
  induction n with
  | zero => rfl
  | succ n ih =>
    show A * (ch_fs st f n + (if st n = 0 then f n else 0)) = F * (ch_gs st f A F n + (if st n = 0 then A * f n / F else 0)) + (ch_rs st f A F n + (if st n = 0 then A * f n % F else 0))
    rw [Nat.mul_add, Nat.mul_add, ih]
    by_cases s0 : st n = 0
    · rw [if_pos s0, if_pos s0, if_pos s0]
      have := Nat.div_add_mod (A * f n) F
      omega
    · rw [if_neg s0, if_neg s0, if_neg s0, Nat.mul_zero, Nat.mul_zero]; omega
theorem ch_rsB {st : Nat → Int32} {f : Nat → Nat} {A F : Nat} (hF : 0 < F) : ∀ n, ch_rs st f A F n ≤ ch_el st f n * F := by
  intro n
  induction n with
  | zero => show 0 ≤ _; omega
  | succ n ih =>
    show ch_rs st f A F n + (if st n = 0 then A * f n % F else 0) ≤ (ch_el st f n + (if st n = 0 ∧ 0 < f n then 1 else 0)) * F
    by_cases s0 : st n = 0
    · rw [if_pos s0]
      by_cases f0 : 0 < f n
      · rw [if_pos ⟨s0, f0⟩, Nat.add_mul, Nat.one_mul]
        have := Nat.mod_lt (A * f n) hF
        omega
      · have e : f n = 0 := by omega
        have z : ¬ (st n = 0 ∧ 0 < f n) := fun y => f0 y.2
        rw [if_neg z, e, Nat.mul_zero, Nat.zero_mod, Nat.add_zero, Nat.add_zero]
        exact ih
    · have z : ¬ (st n = 0 ∧ 0 < f n) := fun y => s0 y.1
      rw [if_neg s0, if_neg z, Nat.add_zero, Nat.add_zero]
      exact ih
theorem ch_gSum {st : Nat → Int32} {f : Nat → Nat} {A M : Nat} (hF : 0 < ch_fs st f M) : ch_sN (ch_g st f A (ch_fs st f M) M) M = A := by
  have a := ch_rsE st f A (ch_fs st f M) M
  have b := ch_rsB (st := st) (f := f) (A := A) hF M
  generalize hFe : ch_fs st f M = F at a b hF
  have c1 : ch_gs st f A F M ≤ A := by
    have : F * ch_gs st f A F M ≤ F * A := by rw [Nat.mul_comm F A]; omega
    exact Nat.le_of_mul_le_mul_left this hF
  have c2 : A ≤ ch_gs st f A F M + ch_el st f M := by
    have : F * A ≤ F * (ch_gs st f A F M + ch_el st f M) := by
      rw [Nat.mul_add, Nat.mul_comm F A, Nat.mul_comm F (ch_el st f M)]; omega
    exact Nat.le_of_mul_le_mul_left this hF
  have key : ∀ n, ch_sN (ch_g st f A F M) n = ch_gs st f A F n + (if ch_el st f n + ch_gs st f A F M ≤ A then ch_el st f n else A - ch_gs st f A F M) := by
    intro n
    induction n with
    | zero =>
      show 0 = 0 + (if 0 + ch_gs st f A F M ≤ A then 0 else A - ch_gs st f A F M)
      rw [if_pos (by omega)]
    | succ n ih =>
      show ch_sN (ch_g st f A F M) n + (ch_g0 st f A F n + (if (st n = 0 ∧ 0 < f n) ∧ ch_el st f n + ch_gs st f A F M < A then 1 else 0)) = ch_gs st f A F n + ch_g0 st f A F n + (if ch_el st f n + (if st n = 0 ∧ 0 < f n then 1 else 0) + ch_gs st f A F M ≤ A then ch_el st f n + (if st n = 0 ∧ 0 < f n then 1 else 0) else A - ch_gs st f A F M)
      rw [ih]
      by_cases e : st n = 0 ∧ 0 < f n
      · rw [if_pos e]
        by_cases z : ch_el st f n + ch_gs st f A F M < A
        · have P1 : (st n = 0 ∧ 0 < f n) ∧ ch_el st f n + ch_gs st f A F M < A := ⟨e, z⟩
          have P2 : ch_el st f n + ch_gs st f A F M ≤ A := by omega
          have P3 : ch_el st f n + 1 + ch_gs st f A F M ≤ A := by omega
          rw [if_pos P1, if_pos P2, if_pos P3]; omega
        · have P1 : ¬ ((st n = 0 ∧ 0 < f n) ∧ ch_el st f n + ch_gs st f A F M < A) := fun y => z y.2
          have P3 : ¬ ch_el st f n + 1 + ch_gs st f A F M ≤ A := by omega
          rw [if_neg P1, if_neg P3]
          by_cases w : ch_el st f n + ch_gs st f A F M ≤ A
          · rw [if_pos w]; omega
          · rw [if_neg w]; omega
      · have P1 : ¬ ((st n = 0 ∧ 0 < f n) ∧ ch_el st f n + ch_gs st f A F M < A) := fun y => e y.1
        rw [if_neg e, if_neg P1, Nat.add_zero, Nat.add_zero]
        omega
  rw [key M]
  by_cases w : ch_el st f M + ch_gs st f A F M ≤ A
  · rw [if_pos w]; omega
  · rw [if_neg w]; omega
end CHS
